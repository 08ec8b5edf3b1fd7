/-! ===== can and wish ===== -/
def askd (S : Nat → Int32) (x2 x7 x8 : Int32) : Prop := ∃ (f t : Nat) (ob : Option Nat), f < 12 ∧ x2 = nI f ∧ t < 30 ∧ x7 = nI t ∧ tS S t 0 = 1 ∧ x8 = onI ob ∧ ∀ c, ob = some c → c < 30 ∧ tS S c 0 = 1
section AK
variable {G : GG} {d : Nat} {h : HP} {b y s : Nat} {Q : Option Value → HP → Prop}
theorem s_areThere (hd : 1 ≤ d) (B : Bd G h y s) (kb : Kd G h b 11) (n2 : hR h b 12 = some s) {x2 x7 x8 : Int32} (h0 : ¬ askd (said h y) x2 x7 x8 → Q (some (.int 0)) h) (h1 : ∀ (f t : Nat) (ob : Option Nat), f < 12 → x2 = nI f → t < 30 → x7 = nI t → tS (said h y) t 0 = 1 → x8 = onI ob → (∀ c, ob = some c → c < 30 ∧ tS (said h y) c 0 = 1) → Q (some (.int 1)) h) : Cal G d mX11_areThere [.ref b, .int x2, .int x7, .int x8] h Q := by
  refine e_X11_areThere hd (s_isFamily (fun c => ⟨_, rfl, fun _ => h0 (fun q => ?_), fun q => absurd rfl q⟩) (fun fm => ⟨_, rfl, fun q => absurd q (by decide), fun _ => ⟨kb, s, n2, B.1.1, c_isThere B (fun c => ⟨_, rfl, fun _ => h0 (fun q => ?_), fun q => absurd rfl q⟩) (fun t ht et wt => ⟨_, rfl, fun q => absurd q (by decide), fun _ => ?_⟩)⟩⟩))
  · obtain ⟨f, t, ob, hf, rfl, -⟩ := q
    exact c (by unfold famI; rw [ti_nI (by omega)]; omega)
  · obtain ⟨f, t, ob, -, -, ht, et, wt, -⟩ := q
    exact c ⟨t, ht, et, wt⟩
  · obtain ⟨f, hf, ef⟩ := of_in (n := 12) fm.1 fm.2
    refine ⟨fun c => h1 f t none hf ef ht et wt c (fun _ q => by cases q), fun c => ⟨s, n2, B.1.1, c_isThere B (fun c2 => ⟨_, rfl, fun _ => h0 (fun q => ?_), fun q => absurd rfl q⟩) (fun u hu eu wu => ⟨_, rfl, fun q => absurd q (by decide), fun _ => h1 f t (some u) hf ef ht et wt eu (fun v q => ?_)⟩)⟩⟩
    · obtain ⟨f', t', ob, -, -, -, -, -, eo, wo⟩ := q
      cases ob with
      | none => exact c eo
      | some v => exact c2 ⟨v, (wo v rfl).1, eo, (wo v rfl).2⟩
    · obtain rfl : u = v := Option.some.inj q
      exact ⟨hu, wu⟩
theorem r_areAsked (hd : 3 ≤ d) (M : MdSh G h y) (W : WF (said h y)) {x2 x7 x8 : Int32} (h0 : ¬ askd (said h y) x2 x7 x8 → Q (some (.int 0)) h) (h1 : askd (said h y) x2 x7 x8 → Q (some (.int 1)) h) : Cal G d mX12_areAsked [.ref y, .int x2, .int x7, .int x8] h Q := by
  refine e_X12_areAsked (by omega) (r_isFamily (fun c => ⟨_, rfl, fun _ => h0 (fun q => ?_), fun q => absurd rfl q⟩) (fun fm => ⟨_, rfl, fun q => absurd q (by decide), fun _ => ⟨M.1, m_isThing M W (by omega) (fun c => ⟨_, rfl, fun _ => h0 (fun q => ?_), fun q => absurd rfl q⟩) (fun t ht et wt => ⟨_, rfl, fun q => absurd q (by decide), fun _ => ?_⟩)⟩⟩))
  · obtain ⟨f, t, ob, hf, rfl, -⟩ := q
    exact c (by unfold famI; rw [ti_nI (by omega)]; omega)
  · obtain ⟨f, t, ob, -, -, ht, et, wt, -⟩ := q
    exact c ⟨t, ht, et, wt⟩
  · obtain ⟨f, hf, ef⟩ := of_in (n := 12) fm.1 fm.2
    refine ⟨fun c => h1 ⟨f, t, none, hf, ef, ht, et, wt, c, fun _ q => by cases q⟩, fun c => m_isThing M W (by omega) (fun c2 => ⟨_, rfl, fun _ => h0 (fun q => ?_), fun q => absurd rfl q⟩) (fun u hu eu wu => ⟨_, rfl, fun q => absurd q (by decide), fun _ => h1 ⟨f, t, some u, hf, ef, ht, et, wt, eu, fun v q => ?_⟩⟩)⟩
    · obtain ⟨f', t', ob, -, -, -, -, -, eo, wo⟩ := q
      cases ob with
      | none => exact c eo
      | some v => exact c2 ⟨v, (wo v rfl).1, eo, (wo v rfl).2⟩
    · obtain rfl : u = v := Option.some.inj q
      exact ⟨hu, wu⟩
theorem r_isText (M : MdSh G h y) {k m : Nat} (hk : k < 2) (hm : hI h (y + 2) k = nI m) (hm6 : m ≤ 6) {x : Int32} (h0 : ¬ (0 ≤ x.toInt ∧ x.toInt < m) → Q (some (.int 0)) h) (h1 : ∀ i, i < m → x = nI i → Q (some (.int 1)) h) : Cal G d mX12_isText [.ref y, .int (nI k), .int x] h Q := by
  obtain ⟨t1, t2, t3⟩ : hR h y 2 = some (y + 2) ∧ Kd G h (y + 2) 14 ∧ hN h (y + 2) = 2 := M.2 (2, 2, 14, 2) (by decide)
  have z0 : (0 : Int32).toInt = 0 := rfl
  refine e_X12_isText ⟨fun c => h0 (fun q => ?_), fun c => ⟨M.1, y + 2, t1, t2, by rw [t3]; exact vin_nI hk (by omega), ?_⟩⟩
  · rw [ti_lt, z0] at c; omega
  rw [cl_nI (by omega), hm]
  refine ⟨fun c2 => h0 (fun q => ?_), fun c2 => ?_⟩
  · rw [ti_le, ti_nI (by omega)] at c2; omega
  · rw [ti_le, ti_nI (by omega)] at c2
    rw [ti_lt, z0] at c
    obtain ⟨i, hi, ei⟩ := of_in (n := m) (x := x) (by omega) (by omega)
    exact h1 i hi ei
theorem s_lawAt {u0 p nl nw : Nat} {La Wi : Nat → Nat} (I : InvB G u0 h b y s p) (T : TextX G h b y nl nw La Wi) {x : Int32} (h0 : ¬ (0 ≤ x.toInt ∧ x.toInt < nl) → Q (some (va_rf none)) h) (h1 : ∀ i, i < nl → x = nI i → Q (some (va_rf (some (La i)))) h) : Cal G d mX11_lawAt [.ref b, .int x] h Q := by
  obtain ⟨-, a1, a2, a3⟩ : _ ∧ hR h b 3 = some (b + 12) ∧ Kd G h (b + 12) 18 ∧ hN h (b + 12) = 6 := I.1.2.2.1 (0, 3, 12, 18, 6) (by decide)
  have z0 : (0 : Int32).toInt = 0 := rfl
  have l6 := T.1
  refine e_X11_lawAt ⟨fun c => h0 (fun q => ?_), fun c => ⟨I.kb, ?_⟩⟩
  · rw [ti_lt, z0] at c; omega
  rw [T.2.2.1]
  refine ⟨fun c2 => h0 (fun q => ?_), fun c2 => ?_⟩
  · rw [ti_le, ti_nI (by omega)] at c2; omega
  · rw [ti_le, ti_nI (by omega)] at c2
    rw [ti_lt, z0] at c
    obtain ⟨i, hi, ei⟩ := of_in (n := nl) (x := x) (by omega) (by omega)
    refine ⟨b + 12, a1, a2, by rw [ei, a3]; exact vin_nI (by omega) (by omega), fun o8 e8 => ?_⟩
    rw [ei, cl_nI (by omega), (T.2.2.2.2.2.2.1 i hi).1] at e8
    rw [← e8]
    exact h1 i hi ei
theorem s_wishAt {u0 p nl nw : Nat} {La Wi : Nat → Nat} (I : InvB G u0 h b y s p) (T : TextX G h b y nl nw La Wi) {x : Int32} (h0 : ¬ (0 ≤ x.toInt ∧ x.toInt < nw) → Q (some (va_rf none)) h) (h1 : ∀ i, i < nw → x = nI i → Q (some (va_rf (some (Wi i)))) h) : Cal G d mX11_wishAt [.ref b, .int x] h Q := by
  obtain ⟨-, a1, a2, a3⟩ : _ ∧ hR h b 4 = some (b + 13) ∧ Kd G h (b + 13) 18 ∧ hN h (b + 13) = 6 := I.1.2.2.1 (0, 4, 13, 18, 6) (by decide)
  have z0 : (0 : Int32).toInt = 0 := rfl
  have l6 := T.2.1
  refine e_X11_wishAt ⟨fun c => h0 (fun q => ?_), fun c => ⟨I.kb, ?_⟩⟩
  · rw [ti_lt, z0] at c; omega
  rw [T.2.2.2.1]
  refine ⟨fun c2 => h0 (fun q => ?_), fun c2 => ?_⟩
  · rw [ti_le, ti_nI (by omega)] at c2; omega
  · rw [ti_le, ti_nI (by omega)] at c2
    rw [ti_lt, z0] at c
    obtain ⟨i, hi, ei⟩ := of_in (n := nw) (x := x) (by omega) (by omega)
    refine ⟨b + 13, a1, a2, by rw [ei, a3]; exact vin_nI (by omega) (by omega), fun o8 e8 => ?_⟩
    rw [ei, cl_nI (by omega), (T.2.2.2.2.2.2.2 i hi).1] at e8
    rw [← e8]
    exact h1 i hi ei
end AK
/-- a law, on both sides -/
def LawX (G : GG) (h : HP) (y A i : Nat) (C : List Cla) : Prop := C.length ≤ 12 ∧ (∀ q ∈ C, ClaP q) ∧ ScrC G h A C ∧ LawR h y i (C.filter (fun q => q.1 != 15)) ∧ (hI h A 0 = 0 ↔ ¬ hI h (y + 7) i = 1) ∧ y + 21 ≤ A ∧ A + 6 ≤ hZ h
theorem mem_f {C : List Cla} {q : Cla} (h : q ∈ C.filter (fun q => q.1 != 15)) : q ∈ C ∧ q.1 ≠ 15 := by
  obtain ⟨h1, h2⟩ := List.mem_filter.mp h
  exact ⟨h1, by simpa using h2⟩
theorem scrX_law {G : GG} {h : HP} {y A i : Nat} (hi : i < 12) (hA : y + 21 ≤ A ∧ A + 6 ≤ hZ h) (S : ScrX G h y A i) : ∃ C, LawX G h y A i C ∧ (i < 6 → ∀ q ∈ C, q.1 ≠ 16) ∧ (6 ≤ i → ∀ q ∈ C, q.1 = 16) := by
  obtain ⟨C, c1, c2, c3, c4, c5⟩ := S
  refine ⟨C, ⟨c1, fun q hq => (c2 q hq).1, c3, ⟨c4, Nat.le_trans (List.length_filter_le _ _) c1, hi, fun q hq => ⟨(c2 q (mem_f hq).1).1, (mem_f hq).2⟩⟩, ?_, hA⟩, fun h6 q hq => (c2 q hq).2.1 h6, fun h6 q hq => (c2 q hq).2.2 h6⟩
  rw [c5]
  by_cases z : hI h (y + 7) i = 1
  · rw [if_pos z]
    exact ⟨fun q => absurd q (by decide), fun q => absurd z q⟩
  · rw [if_neg z]
    exact ⟨fun _ => z, fun _ => rfl⟩
theorem canV_f {S : Nat → Int32} {C : List Cla} {jn : Prop} {f : Nat} {x z tx tz : Int32} {a : Nat} {ob : Option Nat} : canV S (C.filter (fun q => q.1 != 15)) jn f x z tx tz a ob ↔ canV S C jn f x z tx tz a ob := by
  unfold canV
  rw [farF_filter, mayF_filter]
theorem InvB.vw {G : GG} {u0 : Nat} {h : HP} {b y s p : Nat} (I : InvB G u0 h b y s p) {t : Nat} (ht : t < 30) (w : tS (said h y) t 0 = 1) : VwC G h b s (said h y) 0 := by
  obtain ⟨t1, Tb⟩ := TbSh.of I
  exact ⟨I.kb, I.now, t1, Tb, I.st, I.2.2.1.v I.wf, I.wf.r (by have := I.2.2.2.2.1; omega), I.tabs ht w⟩
theorem InvB.plw {G : GG} {u0 : Nat} {h : HP} {b y s p : Nat} (I : InvB G u0 h b y s p) : PlW G h (b + 29) := by
  obtain ⟨-, a1, a2, -⟩ : _ ∧ hR h b 8 = some (b + 29) ∧ Kd G h (b + 29) 3 ∧ hN h (b + 29) = 18 := I.1.2.2.1 (0, 8, 29, 3, 18) (by decide)
  obtain ⟨-, c1, c2, c3⟩ : _ ∧ hR h (b + 29) 17 = some (b + 30) ∧ Kd G h (b + 30) 15 ∧ hN h (b + 30) = 12 := I.1.2.2.1 (29, 17, 30, 15, 12) (by decide)
  exact ⟨a2, c1, c2, c3⟩
theorem sup0 {S : Nat → Int32} (W : WF S) (f : Nat) : supN S f = 0 := by
  unfold supN
  refine cntF_none 24 30 (fun t h1 h2 => ?_)
  unfold ownB
  rw [W.2.2.2.1 t h1 (by omega)]
  have : ((0 : Int32) != 0) = false := by decide
  rw [this, Bool.false_and]
theorem LawX.fr {G : GG} {P RP : Nat → Nat → Prop} {h h2 : HP} {y A i : Nat} {C : List Cla} (F : FrJ P RP h h2) (hp : ∀ a k, P a k → ¬ (y + 2 ≤ a ∧ a ≤ y + 7) ∧ ¬ (y + 21 ≤ a)) (hr : ∀ a k, RP a k → ¬ y + 21 ≤ a) (L : LawX G h y A i C) : LawX G h2 y A i C := by
  obtain ⟨l1, l2, l3, l4, l5, l6, l7⟩ := L
  have lo : ∀ a k, (y + 2 ≤ a ∧ a ≤ y + 7) ∨ y + 21 ≤ a → hI h2 a k = hI h a k := fun a k q => F.i (fun z => by
    have := hp a k z
    omega)
  refine ⟨l1, l2, l3.fr F.1 (fun x k h1 _ => F.r (fun z => hr x k z (by omega))) (fun x k h1 _ => lo _ _ (by omega)), ⟨l4.1.fr l4.2.1 (fun k _ _ => lo _ _ (by omega)) (fun k _ _ => lo _ _ (by omega)) (lo _ _ (by omega)), l4.2⟩, ?_, l6, by rw [F.2.1]; exact l7⟩
  rw [lo A 0 (by omega), lo (y + 7) i (by omega)]
  exact l5
theorem r_thinks {G : GG} {d : Nat} {h : HP} {y : Nat} {Q : Option Value → HP → Prop} (M : MdSh G h y) {x z tx tz : Int32} {a : Nat} {ob : Option Nat} (hQ : ∀ h2, FrI (fun c k => c = y ∧ 31 ≤ k ∧ k ≤ 36) h h2 → ThW h2 y x z tx tz a ob → Q none h2) : Cal G d mX12_thinks [.ref y, .int x, .int z, .int tx, .int tz, .int (nI a), .int (onI ob)] h Q := by
  refine e_X12_thinks ⟨M.1, hQ _ ?_ ?_⟩
  · exact (((((FrI.sI (P := fun c k => c = y ∧ 31 ≤ k ∧ k ≤ 36) _ _ ⟨rfl, by omega, by omega⟩).tr (FrI.sI _ _ ⟨rfl, by omega, by omega⟩)).tr (FrI.sI _ _ ⟨rfl, by omega, by omega⟩)).tr (FrI.sI _ _ ⟨rfl, by omega, by omega⟩)).tr (FrI.sI _ _ ⟨rfl, by omega, by omega⟩)).tr (FrI.sI _ _ ⟨rfl, by omega, by omega⟩)
  · unfold ThW
    simp [hI_sI]
theorem p_can (G : GG) (u0 : Nat) (h : HP) (I : Inv G u0 h) (x1 x2 x3 x4 x5 x6 x7 x8 : Int32) : Pr (Inv G u0) G G.1 (G.1 + 119) mX11_can mX12_can [.int x1, .int x2, .int x3, .int x4, .int x5, .int x6, .int x7, .int x8] h := by
  obtain ⟨s, p, I⟩ := I
  unfold Pr Inv
  generalize G.1 = b at *
  generalize hy : b + 119 = y at *
  have B := I.bd
  have M := B.2.1
  have W := B.2.2.2
  have ns := I.2.1.1
  obtain ⟨nl, nw', La, Wi, Im, T, X, D, Bu⟩ := I.1.2.2.2.2.2
  have ok : some (Value.int (-1)) = some (Value.int (-1)) ∧ ∃ s p, InvB G u0 h b y s p := ⟨rfl, s, p, I⟩
  refine e_X11_can (by omega) ⟨I.kb, s_lawAt I T (fun c => ⟨_, rfl, fun _ => ⟨_, rfl, e_X12_can (by omega) ⟨M.1, r_isText (k := 0) M (by omega) T.2.2.2.2.1 T.1 (fun _ => ⟨_, rfl, fun _ => ok, fun q => absurd rfl q⟩) (fun i hi ei => absurd (by rw [ei, ti_nI (by have := T.1; omega)]; omega) c)⟩⟩, fun _ q => by cases q⟩) (fun i hi ei => ⟨_, rfl, fun q => (by cases q), fun q7 eq7 => ?_⟩)⟩
  obtain rfl : La i = q7 := Option.some.inj eq7
  subst ei
  have nl6 := T.1
  have R0 : ∀ {h1 : HP} {Q : Option Value → HP → Prop} (I1 : InvB G u0 h1 b y s p) (T1 : hI h1 (y + 2) 0 = nI nl), (¬ askd (said h1 y) x2 x7 x8 → Q (some (.int (-1))) h1) → (askd (said h1 y) x2 x7 x8 → Cal G 58 mX12_thinks [.ref y, .int x3, .int x4, .int x5, .int x6, .int x7, .int x8] h1 (fun r12 h13 => r12 = none ∧ Cal G 58 mX12_canCome [.ref y, .int (nI i), .int x2] h13 (fun r15 h16 => ∃ v18, r15 = some (.int v18) ∧ ((v18 = 0 → Q (some (.int 0)) h16) ∧ (¬ v18 = 0 → Q (some (.int 1)) h16))))) → Cal G 59 mX12_can [.ref y, .int (nI i), .int x2, .int x3, .int x4, .int x5, .int x6, .int x7, .int x8] h1 Q := by
    intro h1 Q I1 T1 q0 q1
    exact e_X12_can (by omega) ⟨I1.md.1, r_isText (k := 0) I1.md (by omega) T1 nl6 (fun c => absurd ⟨by rw [ti_nI (by omega)]; omega, by rw [ti_nI (by omega)]; omega⟩ c) (fun _ _ _ => ⟨_, rfl, fun q => absurd q (by decide), fun _ => r_areAsked (by omega) I1.md I1.wf (fun c => ⟨_, rfl, fun q => absurd rfl q, fun _ => q0 c⟩) (fun c => ⟨_, rfl, fun _ => q1 c, fun q => absurd q (by decide)⟩)⟩)⟩
  refine s_areThere (by omega) B I.kb I.now (fun c => ⟨_, rfl, fun q => absurd rfl q, fun _ => ⟨_, rfl, R0 I T.2.2.2.2.1 (fun _ => ok) (fun q => absurd q c)⟩⟩) (fun f t ob hf ef ht et wt eo wo => ⟨_, rfl, fun _ => ⟨b + 29, I.plan.1, I.plan.2, s_pset I.plan.2 (fun h1 F1 v1 => ⟨rfl, b + 29, (F1.r _ _).trans I.plan.1, ?_⟩)⟩, fun q => absurd q (by decide)⟩)
  subst ef et
  have asked : askd (said h y) (nI f) (nI t) x8 := ⟨f, t, ob, hf, rfl, ht, rfl, wt, eo, wo⟩
  have I1 : InvB G u0 h1 b y s p := I.scr ((F1.j _).weak (fun a k q => by unfold Scr; omega) (fun _ _ q => q))
  have eS1 : said h1 y = said h y := funext fun j => F1.i (by omega)
  obtain ⟨C, LX, k16, -⟩ := scrX_law (i := i) (by omega) ⟨(T.2.2.2.2.2.2.1 i hi).2.1, (T.2.2.2.2.2.2.1 i hi).2.2.1⟩ (T.2.2.2.2.2.2.1 i hi).2.2.2
  have k16 := k16 (by omega)
  have LX1 : LawX G h1 y (La i) i C := LX.fr (F1.j (fun _ _ => False)) (fun a k q => by omega) (fun _ _ q => q.elim)
  have V1 := I1.vw ht (by rw [eS1]; exact wt)
  have PL1 : PlI h1 (b + 29) f x3 x4 x5 x6 t ob := ⟨⟨v1.2.1, v1.2.2.1, v1.2.2.2.1, v1.2.2.2.2.1⟩, v1.2.2.2.2.2.1, by rw [v1.2.2.2.2.2.2.1]; exact eo, v1.1⟩
  have hl1 := LX1.2.2.2.2.2
  have Bu1 := Bu.2.2
  refine s_mayCome (by omega) V1 I1.plw (by omega) PL1 (by rw [v1.2.2.2.2.2.2.2, sup0 I1.wf]; rfl) hf (Or.inl ⟨ht, rfl⟩) (by rw [eS1]; exact wt) (by rw [eS1]; exact wo) (fun _ => ht) LX1.2.2.1 LX1.1 LX1.2.1 LX1.2.2.2.2.1 (by omega) (fun h2 v F2 b01 ev _ => ⟨_, rfl, ?_⟩)
  have I2 : InvB G u0 h2 b y s p := I1.scr ((F2.j _).weak (fun a k q => by unfold McI at q; unfold Scr; omega) (fun _ _ q => q))
  have eS2 : said h2 y = said h y := (funext fun j => F2.i (by unfold McI; omega)).trans eS1
  have LX2 : LawX G h2 y (La i) i C := LX1.fr (F2.j (fun _ _ => False)) (fun a k q => by unfold McI at q; omega) (fun _ _ q => q.elim)
  have T2 : hI h2 (y + 2) 0 = nI nl := (F2.i (by unfold McI; omega)).trans ((F1.i (by omega)).trans T.2.2.2.2.1)
  rw [eS1] at ev
  have fin : ∀ v' : Int32, (v' = 0 ∨ v' = 1) → (v' = 1 ↔ canV (said h y) C (hI h1 (y + 7) i = 1) f x3 x4 x5 x6 t ob) → Cal G 59 mX12_can [.ref y, .int (nI i), .int (nI f), .int x3, .int x4, .int x5, .int x6, .int (nI t), .int x8] h2 (fun r2 h3 => r2 = some (.int v') ∧ ∃ s p, InvB G u0 h3 b y s p) := by
    intro v' b' e'
    refine R0 I2 T2 (fun c => absurd (by rw [eS2]; exact asked) c) (fun _ => ?_)
    rw [eo]
    refine r_thinks I2.md (fun h3 F3 TW => ⟨rfl, ?_⟩)
    have I3 : InvB G u0 h3 b y s p := I2.scr ((F3.j _).weak (fun a k q => by unfold Scr; omega) (fun _ _ q => q))
    have eS3 : said h3 y = said h y := (funext fun j => F3.i (by omega)).trans eS2
    have LX3 : LawX G h3 y (La i) i C := LX2.fr (F3.j (fun _ _ => False)) (fun a k q => by omega) (fun _ _ q => q.elim)
    have j3 : hI h3 (y + 7) i = hI h1 (y + 7) i := (F3.i (by omega)).trans (F2.i (by unfold McI; omega))
    have W3 : WfR (said h3 y) := I3.wf.r (by have := I3.2.2.2.2.1; omega)
    refine r_canCome (by omega) I3.md W3 TW hf (by omega) (by rw [eS3]; exact wt) (by rw [eS3]; exact fun c q => ⟨by have := (wo c q).1; omega, (wo c q).2⟩) LX3.2.2.2.1 (fun q hq => k16 q (mem_f hq).1) (fun h4 v4 F4 b4 e4 => ?_)
    have I4 : InvB G u0 h4 b y s p := I3.scr ((F4.j _).weak (fun a k q => by unfold RkI at q; unfold Scr; omega) (fun _ _ q => q))
    rw [eS3, j3, canV_f] at e4
    have same : v4 = v' := by
      rcases b4 with z | z <;> rcases b' with z' | z'
      · rw [z, z']
      · have := e4.mpr (e'.mp z')
        rw [z] at this
        exact absurd this (by decide)
      · have := e'.mpr (e4.mp z)
        rw [z'] at this
        exact absurd this (by decide)
      · rw [z, z']
    refine ⟨_, rfl, fun q => ⟨by rw [← same, q], s, p, I4⟩, fun q => ⟨by rw [← same, b4.resolve_left q], s, p, I4⟩⟩
  refine ⟨fun q => ?_, fun q => ?_⟩
  · subst q
    exact ⟨_, rfl, fin 0 (Or.inl rfl) ev⟩
  · have e1 := b01.resolve_left q
    subst e1
    exact ⟨_, rfl, fin 1 (Or.inr rfl) ev⟩
theorem p_wish (G : GG) (u0 : Nat) (h : HP) (I : Inv G u0 h) (x1 x2 x3 x4 x5 x6 x7 x8 : Int32) : PrL (Inv G u0) G G.1 (G.1 + 119) mX11_wish mX12_wish [.int x1, .int x2, .int x3, .int x4, .int x5, .int x6, .int x7, .int x8] h := by
  obtain ⟨s, p, I⟩ := I
  unfold PrL Inv
  generalize G.1 = b at *
  generalize hy : b + 119 = y at *
  have B := I.bd
  have M := B.2.1
  have W := B.2.2.2
  have ns := I.2.1.1
  obtain ⟨nl, nw', La, Wi, Im, T, X, D, Bu⟩ := I.1.2.2.2.2.2
  have ok : some (Value.long 0) = some (Value.long 0) ∧ ∃ s p, InvB G u0 h b y s p := ⟨rfl, s, p, I⟩
  have nw6 := T.2.1
  refine e_X11_wish (by omega) ⟨I.kb, s_wishAt I T (fun c => ⟨_, rfl, fun _ => ⟨_, rfl, e_X12_wish (by omega) ⟨M.1, r_isText (k := 1) M (by omega) T.2.2.2.2.2.1 nw6 (fun _ => ⟨_, rfl, fun _ => ok, fun q => absurd rfl q⟩) (fun i hi ei => absurd (by rw [ei, ti_nI (by omega)]; omega) c)⟩⟩, fun _ q => by cases q⟩) (fun i hi ei => ⟨_, rfl, fun q => (by cases q), fun q7 eq7 => ?_⟩)⟩
  obtain rfl : Wi i = q7 := Option.some.inj eq7
  subst ei
  have R0 : ∀ {h1 : HP} {Q : Option Value → HP → Prop} (I1 : InvB G u0 h1 b y s p) (T1 : hI h1 (y + 2) 1 = nI nw'), (¬ askd (said h1 y) x2 x7 x8 → Q (some (.long 0)) h1) → (askd (said h1 y) x2 x7 x8 → Cal G 58 mX12_thinks [.ref y, .int x3, .int x4, .int x5, .int x6, .int x7, .int x8] h1 (fun r12 h13 => r12 = none ∧ Cal G 58 mX12_isFit [.ref y] h13 (fun r15 h16 => ∃ v18, r15 = some (.int v18) ∧ ((v18 = 0 → Q (some (.long 0)) h16) ∧ (¬ v18 = 0 → Cal G 58 mX12_wishOf [.ref y, .int (nI i), .int x2] h16 (fun r20 h21 => ∃ v23, r20 = some (.long v23) ∧ Q (some (.long v23)) h21)))))) → Cal G 59 mX12_wish [.ref y, .int (nI i), .int x2, .int x3, .int x4, .int x5, .int x6, .int x7, .int x8] h1 Q := by
    intro h1 Q I1 T1 q0 q1
    exact e_X12_wish (by omega) ⟨I1.md.1, r_isText (k := 1) I1.md (by omega) T1 nw6 (fun c => absurd ⟨by rw [ti_nI (by omega)]; omega, by rw [ti_nI (by omega)]; omega⟩ c) (fun _ _ _ => ⟨_, rfl, fun q => absurd q (by decide), fun _ => r_areAsked (by omega) I1.md I1.wf (fun c => ⟨_, rfl, fun q => absurd rfl q, fun _ => q0 c⟩) (fun c => ⟨_, rfl, fun _ => q1 c, fun q => absurd q (by decide)⟩)⟩)⟩
  refine s_areThere (by omega) B I.kb I.now (fun c => ⟨_, rfl, fun q => absurd rfl q, fun _ => ⟨_, rfl, R0 I T.2.2.2.2.2.1 (fun _ => ok) (fun q => absurd q c)⟩⟩) (fun f t ob hf ef ht et wt eo wo => ⟨_, rfl, fun _ => ⟨b + 29, I.plan.1, I.plan.2, s_pset I.plan.2 (fun h1 F1 v1 => ⟨rfl, b + 29, (F1.r _ _).trans I.plan.1, ?_⟩)⟩, fun q => absurd q (by decide)⟩)
  subst ef et
  have asked : askd (said h y) (nI f) (nI t) x8 := ⟨f, t, ob, hf, rfl, ht, rfl, wt, eo, wo⟩
  have I1 : InvB G u0 h1 b y s p := I.scr ((F1.j _).weak (fun a k q => by unfold Scr; omega) (fun _ _ q => q))
  have eS1 : said h1 y = said h y := funext fun j => F1.i (by omega)
  obtain ⟨C, LX, -, k16⟩ := scrX_law (i := 6 + i) (by omega) ⟨(T.2.2.2.2.2.2.2 i hi).2.1, (T.2.2.2.2.2.2.2 i hi).2.2.1⟩ (T.2.2.2.2.2.2.2 i hi).2.2.2
  have k16 := k16 (by omega)
  have LX1 : LawX G h1 y (Wi i) (6 + i) C := LX.fr (F1.j (fun _ _ => False)) (fun a k q => by omega) (fun _ _ q => q.elim)
  have V1 := I1.vw ht (by rw [eS1]; exact wt)
  have PL1 : PlI h1 (b + 29) f x3 x4 x5 x6 t ob := ⟨⟨v1.2.1, v1.2.2.1, v1.2.2.2.1, v1.2.2.2.2.1⟩, v1.2.2.2.2.2.1, by rw [v1.2.2.2.2.2.2.1]; exact eo, v1.1⟩
  have hl1 := LX1.2.2.2.2.2
  have wo' : thereO (said h y) ob := fun c q => ⟨by have := (wo c q).1; omega, (wo c q).2⟩
  -- the reference's side
  have R : ∀ {h2 : HP}, InvB G u0 h2 b y s p → said h2 y = said h y → LawX G h2 y (Wi i) (6 + i) C → hI h2 (y + 2) 1 = nI nw' → ∀ v : Int64, (¬ fitP (said h y) x3 x4 x5 x6 t ob → v = 0) → (fitP (said h y) x3 x4 x5 x6 t ob → v = totF (wdF (said h y) f x3 x4 x5 x6 t ob) C 0) → Cal G 59 mX12_wish [.ref y, .int (nI i), .int (nI f), .int x3, .int x4, .int x5, .int x6, .int (nI t), .int x8] h2 (fun r2 h3 => r2 = some (.long v) ∧ ∃ s p, InvB G u0 h3 b y s p) := by
    intro h2 I2 eS2 LX2 T2 v n0 n1
    refine R0 I2 T2 (fun c => absurd (by rw [eS2]; exact asked) c) (fun _ => ?_)
    rw [eo]
    refine r_thinks I2.md (fun h3 F3 TW => ⟨rfl, ?_⟩)
    have I3 : InvB G u0 h3 b y s p := I2.scr ((F3.j _).weak (fun a k q => by unfold Scr; omega) (fun _ _ q => q))
    have eS3 : said h3 y = said h y := (funext fun j => F3.i (by omega)).trans eS2
    have LX3 : LawX G h3 y (Wi i) (6 + i) C := LX2.fr (F3.j (fun _ _ => False)) (fun a k q => by omega) (fun _ _ q => q.elim)
    have W3 : WfR (said h3 y) := I3.wf.r (by have := I3.2.2.2.2.1; omega)
    refine r_isFit (by omega) I3.md W3 TW (by omega) (by rw [eS3]; exact wt) (by rw [eS3]; exact wo') (fun c => ⟨_, rfl, fun _ => ⟨by rw [n0 (by rw [← eS3]; exact c)], s, p, I3⟩, fun q => absurd rfl q⟩) (fun c => ⟨_, rfl, fun q => absurd q (by decide), fun _ => ?_⟩)
    refine r_wishOf (by omega) I3.md W3 TW hf (by omega) (by rw [eS3]; exact wt) (by rw [eS3]; exact wo') c (by omega) LX3.2.2.2.1 (fun q hq => k16 q (mem_f hq).1) (fun h4 F4 => ⟨_, rfl, ?_, s, p, I3.scr ((F4.j _).weak (fun a k q => by unfold RkI at q; unfold Scr; omega) (fun _ _ q => q))⟩)
    rw [eS3] at c ⊢
    rw [totF_filter, n1 c]
  have wt1 : tS (said h1 y) t 0 = 1 := by rw [eS1]; exact wt
  have wo1 : ∀ c, ob = some c → c < 30 ∧ tS (said h1 y) c 0 = 1 := by rw [eS1]; exact wo
  have Bu1 := Bu.2.2
  refine s_fits (by omega) V1 I1.plw.1 (by omega) PL1 (Or.inl ⟨ht, rfl⟩) wt1 wo1 (fun _ => ht) (fun h2 v F2 b01 ev _ => ⟨_, rfl, fun q => ?_, fun q => ?_⟩)
  · have v1' := b01.resolve_left q
    have fit := ev.mp v1'
    have V2 := V1.fs F2 (fun a k q => by omega)
    have I2 : InvB G u0 h2 b y s p := I1.scr ((F2.j _).weak (fun a k q => by unfold Scr; omega) (fun _ _ q => q))
    have K2 := I2.plw
    have L2 := PL1.fs F2 (fun k hk q => by omega)
    have hl := fit.1
    unfold hldP at hl
    have dd := V1.2.2.2.2.2.2.1.1
    unfold rng at dd
    have ex := nN_of (x := x3) hl.1.1
    have ez := nN_of (x := x4) hl.2.1
    have etx := nN_of (x := x5) (by omega)
    have etz := nN_of (x := x6) (by omega)
    have tx_ : (x5.toInt) = (nN x5 : Int) := by unfold nN; omega
    have tz_ : (x6.toInt) = (nN x6 : Int) := by unfold nN; omega
    have x_ : (x3.toInt) = (nN x3 : Int) := by unfold nN; omega
    have z_ : (x4.toInt) = (nN x4 : Int) := by unfold nN; omega
    have LN : PlI h2 (b + 29) f (nI (nN x3)) (nI (nN x4)) (nI (nN x5)) (nI (nN x6)) t ob := by
      rw [← ex, ← ez, ← etx, ← etz]; exact L2
    have fitN : fitP (said h1 y) (nI (nN x3)) (nI (nN x4)) (nI (nN x5)) (nI (nN x6)) t ob := by
      rw [← ex, ← ez, ← etx, ← etz]; exact fit
    refine ⟨b + 29, I2.plan.1, s_describe (by omega) V2 K2 (by omega) LN (by rw [F2.i (by omega), v1.2.2.2.2.2.2.2, sup0 I1.wf]; rfl) hf (Or.inl ⟨ht, rfl⟩) wt1 wo1 (by omega) (by omega) (by omega) (by omega) fitN (fun h3 F3 W3 => ⟨rfl, b + 29, (F3.r _ _).trans I2.plan.1, F3.kd I2.plan.2, b + 29 + 1, (K2.fs F3).2.1, ?_⟩)⟩
    have LX3 : LawX G h3 y (Wi i) (6 + i) C := (LX1.fr (F2.j (fun _ _ => False)) (fun a k q => by omega) (fun _ _ q => q.elim)).fr (F3.j (fun _ _ => False)) (fun a k q => q.elim) (fun _ _ q => q.elim)
    have SW : ScrW G h3 (Wi i) (b + 29 + 1) (wdF (said h1 y) f x3 x4 x5 x6 t ob) C := ⟨LX3.2.2.1, ⟨(K2.fs F3).2.2.1, (K2.fs F3).2.2.2, fun k hk => W3 k hk⟩, by omega, LX3.2.1⟩
    refine ⟨LX3.2.2.1.1, s_total (by omega) LX3.1 SW (fun h4 F4 => ⟨_, rfl, _, rfl, ?_⟩)⟩
    have I4 : InvB G u0 h4 b y s p := (I2.scr ((F3.j _).weak (fun a k q => q.elim) (fun _ _ q => q))).scr ((F4.j _).weak (fun a k q => q.elim) (fun _ _ q => q))
    have eS4 : said h4 y = said h y := ((funext fun j => F4.i (fun z => z)).trans (funext fun j => F3.i (fun z => z))).trans ((funext fun j => F2.i (by omega)).trans eS1)
    refine R I4 eS4 (LX3.fr (F4.j (fun _ _ => False)) (fun a k q => q.elim) (fun _ _ q => q.elim)) ((F4.i (fun z => z)).trans ((F3.i (fun z => z)).trans ((F2.i (by omega)).trans ((F1.i (by omega)).trans T.2.2.2.2.2.1)))) _ (fun c => absurd (by rw [← eS1]; exact fit) c) (fun _ => ?_)
    rw [eS1]
  · have I2 : InvB G u0 h2 b y s p := I1.scr ((F2.j _).weak (fun a k q => by unfold Scr; omega) (fun _ _ q => q))
    refine ⟨_, rfl, R I2 ((funext fun j => F2.i (by omega)).trans eS1) (LX1.fr (F2.j (fun _ _ => False)) (fun a k q => by omega) (fun _ _ q => q.elim)) ((F2.i (by omega)).trans ((F1.i (by omega)).trans T.2.2.2.2.2.1)) _ (fun _ => rfl) (fun c => ?_)⟩
    have := ev.mpr (by rw [eS1]; exact c)
    rw [q] at this
    exact absurd this (by decide)
