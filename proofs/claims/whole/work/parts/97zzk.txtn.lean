/-! ===== a text is read by the class: all of it ===== -/
/-- a new cell, with what it holds -/
def NwC (h h2 : HP) (κ n : Nat) (v : Nat → Int32) : Prop := hZ h2 = hZ h + 1 ∧ hU h2 = hU h + n ∧ KP h h2 ∧ (∀ a k, a < hZ h → hI h2 a k = hI h a k ∧ hR h2 a k = hR h a k) ∧ hK h2 (hZ h) = κ ∧ hN h2 (hZ h) = n ∧ ∀ j, j < n → hI h2 (hZ h) j = v j
theorem nwc_nw (h : HP) (κ n : Nat) : NwC h (nw h κ n) κ n (fun _ => 0) := ⟨hZ_nw .., hU_nw .., KP.nw .., fun a k ha => ⟨by rw [hI_nw, if_neg (by omega)], by rw [hR_nw, if_neg (by omega)]⟩, by rw [hK_nw, if_pos rfl], by rw [hN_nw, if_pos rfl], fun j _ => by rw [hI_nw, if_pos rfl]⟩
theorem nwc_dup (h : HP) {a n : Nat} (ha : a < hZ h) : NwC h (dupI h a n) 14 n (fun j => hI h a j) := by
  unfold dupI
  refine ⟨?_, ?_, (KP.nw h 14 n).tr (kp_cp _ _ _ _ _ _), fun x k hx => ⟨?_, ?_⟩, ?_, ?_, fun j hj => ?_⟩
  · rw [hZ_cp, hZ_nw]
  · rw [hU_cp, hU_nw]
  · rw [hI_cp, if_neg (by omega), hI_nw, if_neg (by omega)]
  · rw [hR_cp, hR_nw, if_neg (by omega)]
  · rw [hK_cp, hK_nw, if_pos rfl]
  · rw [hN_cp, hN_nw, if_pos rfl]
  · rw [hI_cp, if_pos ⟨rfl, by omega, by omega⟩, hI_nw, if_neg (by omega), show 0 + (j - 0) = j by omega]
theorem NwC.k {h h2 : HP} {κ n : Nat} {v : Nat → Int32} (N : NwC h h2 κ n v) (P RP : Nat → Nat → Prop) : FrK P RP h h2 := ⟨N.2.2.1, fun a k ha _ => (N.2.2.2.1 a k ha).1, fun a k ha _ => (N.2.2.2.1 a k ha).2⟩
theorem SegC.of {h : HP} {A : Nat} {C X D : List Int32} {l : List Tok} (hc : C = X ++ (l.map encC ++ [(-1 : Int32)]) ++ D) (hn : hN h A = C.length) (hv : ∀ j v, C[j]? = some v → hI h A j = v) : SegC h A X.length l := by
  have lc : C.length = X.length + (l.length + 1) + D.length := by
    rw [hc, List.length_append, List.length_append, List.length_append, List.length_map]
    rfl
  have gt : ∀ j, j < l.length + 1 → C[X.length + j]? = (l.map encC ++ [(-1 : Int32)])[j]? := fun j hj => by
    rw [hc, List.append_assoc, List.getElem?_append_right (by omega), Nat.add_sub_cancel_left, List.getElem?_append_left]
    rw [List.length_append, List.length_map]
    exact hj
  refine ⟨by omega, fun j q hq => ?_, ?_⟩
  · have hj : j < l.length := (List.getElem?_eq_some_iff.mp hq).1
    refine hv _ _ ?_
    rw [gt j (by omega), List.getElem?_append_left (by rw [List.length_map]; exact hj), List.getElem?_map, hq]
    rfl
  · refine hv _ _ ?_
    rw [gt l.length (by omega), List.getElem?_append_right (by rw [List.length_map]; exact Nat.le_refl _), List.length_map, Nat.sub_self]
    rfl
section TO
variable {G : GG} {d : Nat} {b : Nat} {B : Nat → Int32} {n k : Nat} {wish : Bool} {Q : Option Value → HP → Prop}
def R74 (b a k : Nat) : Prop := a = b + 7 ∧ k = 4
def CrF (b a k : Nat) : Prop := CcF b a k ∨ (b + 3 ≤ a ∧ a ≤ b + 5)
theorem FrI.kk {P RP : Nat → Nat → Prop} {h h2 : HP} (F : FrI P h h2) : FrK P RP h h2 := F.k (fun _ _ z => z)
/-- the Script is made -/
theorem c_made {h : HP} {s : TSt} {C : List Int32} {x2 x3 x4 : Int32} (hd : 4 ≤ d) (S : TsP B n wish s) (L : LcT G h b B n s C)
    (hQ : ∀ h2, FrK (CrF b) (R74 b) h h2 → hZ h2 = hZ h + 6 → hU h2 ≤ hU h + 600 → hI h2 (b + 1) 1 = 0 → ScrC G h2 (hZ h) s.2.2.1 → hI h2 (hZ h) 0 = (if s.2.2.2 = some 1 then 1 else 0) → Q (some (va_rf (some (hZ h)))) h2) : Ex G d mX5_read 78 [(0, .ref (b + 7)), (1, .ref (b + 1)), (2, .int x2), (3, .int x3), (4, .int x4)] [] h Q := by
  have sn : s.1 ≤ n := S.1.1
  have s12 := S.2.2.1
  have sj := S.2.2.2.2.2
  obtain ⟨T, ⟨⟨g1, g2, g3⟩, ⟨i1, i2, i3⟩, j1, j2, j3⟩, ⟨e1, e6, e8⟩, hc, hr⟩ := L
  obtain ⟨f1, -⟩ := T.1.f
  obtain ⟨a1, a2, a3, a4, a5⟩ := T.2.1
  have e5 := T.2.2.1.1
  have cv := T.2.2.2
  have n400 := T.1.2.1.2.1
  have z1 := a1.2.2
  have z8 := a4.2.2
  have z9 := g2.2.2
  have z10 := i2.2.2
  have z11 := j2.2.2
  have zg := a1.2.1
  have z0 := f1.2.2
  have hl : C.length ≤ 424 := by omega
  refine t_X5_read_78 (by omega) ⟨a1, b + 1, a2, f1, fun _ => fun q6 h7 eq6 e7 => ?_, fun nz => absurd e1 nz⟩
  have N1 : NwC h h7 4 6 (fun _ => 0) := by
    rw [e7]
    exact nwc_nw h 4 6
  have v1 := N1.2.2.2.1
  refine ⟨b + 8, (v1 _ _ (by omega)).2.trans a3, ?_⟩
  rw [(v1 (b + 7) 5 (by omega)).1, e5]
  refine e_copyOf (by omega) (a4.up N1.2.2.1) ?_ ?_ ?_ ⟨_, rfl, ?_⟩
  · intro q
    have := (nI_lt_iff (b := 0) (by omega) (by omega)).mp q
    omega
  · rw [cl_nI (by omega), a4.len N1.2.2.1, a5]
    exact hl
  · rw [a4.len N1.2.2.1, a5]
    omega
  rw [cl_nI (by omega)]
  generalize g14 : dupI h7 (b + 8) C.length = h14
  have N2 : NwC h7 h14 14 C.length (fun j => hI h7 (b + 8) j) := by
    rw [← g14]
    exact nwc_dup h7 (by have := N1.1; omega)
  have zz1 := N1.1
  have zz2 := N2.1
  have v2 := N2.2.2.2.1
  have K2 : KP h h14 := N1.2.2.1.tr N2.2.2.1
  refine ⟨b + 9, ((v2 _ _ (by omega)).2.trans (v1 _ _ (by omega)).2).trans g1, ?_⟩
  rw [(v2 (b + 7) 6 (by omega)).1, (v1 (b + 7) 6 (by omega)).1, e6]
  have nn : ¬ (nI s.2.2.1.length : Int32) < 0 := fun q => by
    have := (nI_lt_iff (b := 0) (by omega) (by omega)).mp q
    omega
  refine e_copyOf (by omega) (g2.up K2) nn ?_ ?_ ⟨_, rfl, ?_⟩
  · rw [cl_nI (by omega), g2.len K2, g3]
    exact s12
  · rw [g2.len K2, g3]
    omega
  rw [cl_nI (by omega)]
  generalize g20 : dupI h14 (b + 9) s.2.2.1.length = h20
  have N3 : NwC h14 h20 14 s.2.2.1.length (fun j => hI h14 (b + 9) j) := by
    rw [← g20]
    exact nwc_dup h14 (by omega)
  have zz3 := N3.1
  have v3 := N3.2.2.2.1
  have K3 : KP h h20 := K2.tr N3.2.2.1
  refine ⟨b + 10, ((v3 _ _ (by omega)).2.trans ((v2 _ _ (by omega)).2.trans (v1 _ _ (by omega)).2)).trans i1, ?_⟩
  rw [(v3 (b + 7) 6 (by omega)).1, (v2 (b + 7) 6 (by omega)).1, (v1 (b + 7) 6 (by omega)).1, e6]
  refine e_copyOf (by omega) (i2.up K3) nn ?_ ?_ ⟨_, rfl, ?_⟩
  · rw [cl_nI (by omega), i2.len K3, i3]
    exact s12
  · rw [i2.len K3, i3]
    omega
  rw [cl_nI (by omega)]
  generalize g26 : dupI h20 (b + 10) s.2.2.1.length = h26
  have N4 : NwC h20 h26 14 s.2.2.1.length (fun j => hI h20 (b + 10) j) := by
    rw [← g26]
    exact nwc_dup h20 (by omega)
  have zz4 := N4.1
  have v4 := N4.2.2.2.1
  have K4 : KP h h26 := K3.tr N4.2.2.1
  refine ⟨b + 11, ((v4 _ _ (by omega)).2.trans ((v3 _ _ (by omega)).2.trans ((v2 _ _ (by omega)).2.trans (v1 _ _ (by omega)).2))).trans j1, ?_⟩
  rw [(v4 (b + 7) 6 (by omega)).1, (v3 (b + 7) 6 (by omega)).1, (v2 (b + 7) 6 (by omega)).1, (v1 (b + 7) 6 (by omega)).1, e6]
  refine e_copyOf (by omega) (j2.up K4) nn ?_ ?_ ⟨_, rfl, ?_⟩
  · rw [cl_nI (by omega), j2.len K4, j3]
    exact s12
  · rw [j2.len K4, j3]
    omega
  rw [cl_nI (by omega)]
  generalize g32 : dupI h26 (b + 11) s.2.2.1.length = h32
  have N5 : NwC h26 h32 14 s.2.2.1.length (fun j => hI h26 (b + 11) j) := by
    rw [← g32]
    exact nwc_dup h26 (by omega)
  have zz5 := N5.1
  have v5 := N5.2.2.2.1
  have K5 : KP h h32 := K4.tr N5.2.2.1
  have o5 : ∀ a k, a < hZ h → hI h32 a k = hI h a k ∧ hR h32 a k = hR h a k := fun a k ha => ⟨(v5 a k (by omega)).1.trans ((v4 a k (by omega)).1.trans ((v3 a k (by omega)).1.trans ((v2 a k (by omega)).1.trans (v1 a k (by omega)).1))), (v5 a k (by omega)).2.trans ((v4 a k (by omega)).2.trans ((v3 a k (by omega)).2.trans ((v2 a k (by omega)).2.trans (v1 a k (by omega)).2)))⟩
  have ev : ∀ x5, x5 = (if s.2.2.2 = some 1 then 1 else 0) → (x5 = 0 ∨ x5 = 1) → Cal G (d - 1) mX4_init [.ref q6, .ref (hZ h7), .ref (hZ h14), .ref (hZ h20), .ref (hZ h26), .int x5] h32 (fun r36 h37 => r36 = none ∧ Q (some (va_rf (some q6))) h37) := fun x5 hx5 b5 => by
    refine e_X4_init (by omega) (fun q1 h2 eq1 e2 => ?_)
    have c64 : (64 : Int32).toNatClampNeg = 64 := by decide
    rw [c64] at e2
    have N6 : NwC h32 h2 15 64 (fun _ => 0) := by
      rw [e2]
      exact nwc_nw h32 15 64
    have zz6 := N6.1
    have v6 := N6.2.2.2.1
    subst eq6
    subst eq1
    have kz : Kd G h7 (hZ h) 4 := ⟨N1.2.2.2.2.1, by omega, by omega⟩
    have kz6 : Kd G h2 (hZ h) 4 := ((((kz.up N2.2.2.1).up N3.2.2.1).up N4.2.2.1).up N5.2.2.1).up N6.2.2.1
    refine ⟨kz6, fun h8 e8' => ⟨b5, rfl, ?_⟩⟩
    generalize g9 : sI h8 (hZ h) 0 x5 = h9
    have KK : KP h2 h9 := by
      rw [← g9, e8']
      exact ((((kp_sR h2 _ _ _).tr (kp_sR _ _ _ _)).tr ((kp_sR _ _ _ _).tr (kp_sR _ _ _ _))).tr (kp_sR _ _ _ _)).tr (kp_sI _ _ _ _)
    have zz9 : hZ h9 = hZ h2 := by
      rw [← g9, e8']
      rfl
    have uu9 : hU h9 = hU h2 := by
      rw [← g9, e8']
      rfl
    have i9 : ∀ a k, a ≠ hZ h → hI h9 a k = hI h2 a k := fun a k ha => by
      rw [← g9, hI_ne _ _ (Or.inl ha), e8', hI_sR, hI_sR, hI_sR, hI_sR, hI_sR]
    have r9 : ∀ a k, a ≠ hZ h → hR h9 a k = hR h2 a k := fun a k ha => by
      rw [← g9, hR_sI, e8', hR_sR, if_neg (fun q => ha q.1), hR_sR, if_neg (fun q => ha q.1), hR_sR, if_neg (fun q => ha q.1), hR_sR, if_neg (fun q => ha q.1), hR_sR, if_neg (fun q => ha q.1)]
    have o9 : ∀ a k, a < hZ h → hI h9 a k = hI h a k ∧ hR h9 a k = hR h a k := fun a k ha => ⟨(i9 a k (by omega)).trans ((v6 a k (by omega)).1.trans (o5 a k ha).1), (r9 a k (by omega)).trans ((v6 a k (by omega)).2.trans (o5 a k ha).2)⟩
    have K9 : KP h h9 := (K5.tr N6.2.2.1).tr KK
    have rr : hR h9 (hZ h) 1 = some (hZ h7) ∧ hR h9 (hZ h) 2 = some (hZ h14) ∧ hR h9 (hZ h) 3 = some (hZ h20) ∧ hR h9 (hZ h) 4 = some (hZ h26) ∧ hR h9 (hZ h) 5 = some (hZ h32) := by
      rw [← g9, e8']
      simp [hR_sI, hR_sR]
    have uu : hU h9 = hU h + 6 + C.length + s.2.2.1.length + s.2.2.1.length + s.2.2.1.length + 64 := by
      rw [uu9, N6.2.1, N5.2.1, N4.2.1, N3.2.1, N2.2.1, N1.2.1]
    have k14 : Kd G h14 (hZ h7) 14 := ⟨N2.2.2.2.2.1, by omega, by omega⟩
    have k20 : Kd G h20 (hZ h14) 14 := ⟨N3.2.2.2.2.1, by omega, by omega⟩
    have k26 : Kd G h26 (hZ h20) 14 := ⟨N4.2.2.2.2.1, by omega, by omega⟩
    have k32 : Kd G h32 (hZ h26) 14 := ⟨N5.2.2.2.2.1, by omega, by omega⟩
    have k2 : Kd G h2 (hZ h32) 15 := ⟨N6.2.2.2.2.1, by omega, by omega⟩
    have P6 : KP h32 h9 := N6.2.2.1.tr KK
    have P5 : KP h26 h9 := N5.2.2.1.tr P6
    have P4 : KP h20 h9 := N4.2.2.1.tr P5
    have P3 : KP h14 h9 := N3.2.2.1.tr P4
    have c1 : ∀ j, j < C.length → hI h9 (hZ h7) j = hI h (b + 8) j := fun j hj => by
      rw [i9 _ _ (by omega), (v6 _ _ (by omega)).1, (v5 _ _ (by omega)).1, (v4 _ _ (by omega)).1, (v3 _ _ (by omega)).1, N2.2.2.2.2.2.2 j hj]
      exact (v1 _ _ (by omega)).1
    have c2 : ∀ j, j < s.2.2.1.length → hI h9 (hZ h14) j = hI h (b + 9) j := fun j hj => by
      rw [i9 _ _ (by omega), (v6 _ _ (by omega)).1, (v5 _ _ (by omega)).1, (v4 _ _ (by omega)).1, N3.2.2.2.2.2.2 j hj]
      exact (v2 _ _ (by omega)).1.trans (v1 _ _ (by omega)).1
    have c3 : ∀ j, j < s.2.2.1.length → hI h9 (hZ h20) j = hI h (b + 10) j := fun j hj => by
      rw [i9 _ _ (by omega), (v6 _ _ (by omega)).1, (v5 _ _ (by omega)).1, N4.2.2.2.2.2.2 j hj]
      exact (v3 _ _ (by omega)).1.trans ((v2 _ _ (by omega)).1.trans (v1 _ _ (by omega)).1)
    have c4 : ∀ j, j < s.2.2.1.length → hI h9 (hZ h26) j = hI h (b + 11) j := fun j hj => by
      rw [i9 _ _ (by omega), (v6 _ _ (by omega)).1, N5.2.2.2.2.2.2 j hj]
      exact (v4 _ _ (by omega)).1.trans ((v3 _ _ (by omega)).1.trans ((v2 _ _ (by omega)).1.trans (v1 _ _ (by omega)).1))
    have y1 : hZ h7 = hZ h + 1 := zz1
    have y2 : hZ h14 = hZ h + 2 := by omega
    have y3 : hZ h20 = hZ h + 3 := by omega
    have y4 : hZ h26 = hZ h + 4 := by omega
    have y5 : hZ h32 = hZ h + 5 := by omega
    have kc : Kd G h9 (hZ h7) 14 ∧ hN h9 (hZ h7) = C.length := ⟨k14.up P3, (k14.len P3).trans N2.2.2.2.2.2.1⟩
    have sg : ∀ A D l, C = A ++ (l.map encC ++ [(-1 : Int32)]) ++ D → SegC h9 (hZ h + 1) A.length l := fun A D l e => by
      rw [← y1]
      exact SegC.of e kc.2 (fun j v hv => (c1 j (List.getElem?_eq_some_iff.mp hv).1).trans (cv j v hv))
    refine hQ h9 ⟨K9, fun a k ha _ => (o9 a k ha).1, fun a k ha _ => (o9 a k ha).2⟩ (by omega) (by omega) ((o9 _ _ (by omega)).1.trans e1) ⟨kz6.up KK, ?_, ?_, ?_, ?_, ?_, ?_, fun i q hq => ?_⟩ ?_
    · rw [← y1, ← y2, ← y3, ← y4, ← y5]
      exact rr
    · rw [← y1]
      exact ⟨kc.1, by rw [kc.2]; exact hl⟩
    · rw [← y2]
      exact ⟨k20.up P4, (k20.len P4).trans N3.2.2.2.2.2.1⟩
    · rw [← y3]
      exact ⟨k26.up P5, (k26.len P5).trans N4.2.2.2.2.2.1⟩
    · rw [← y4]
      exact ⟨k32.up P6, (k32.len P6).trans N5.2.2.2.2.2.1⟩
    · rw [← y5]
      exact ⟨k2.up KK, (k2.len KK).trans N6.2.2.2.2.2.1⟩
    · have hi : i < s.2.2.1.length := (List.getElem?_eq_some_iff.mp hq).1
      obtain ⟨w1, w2, w3, w4⟩ := hr i q hq
      rw [← y2, ← y3, ← y4, c2 i hi, c3 i hi, c4 i hi]
      refine ⟨w1, fun hq2 => ?_, w3, fun l hl' => ?_⟩
      · obtain ⟨A, D, u1, u2⟩ := w2 hq2
        exact ⟨A.length, u2, sg A D _ u1⟩
      · obtain ⟨A, D, u1, u2⟩ := w4 l hl'
        exact ⟨A.length, u2, sg A D _ u1⟩
    · rw [← g9, hI_eq]
      exact hx5
  rw [(o5 _ _ (by omega)).1, e8]
  refine ⟨fun nz => ev 0 ?_ (Or.inl rfl), fun z => ev 1 ?_ (Or.inr rfl)⟩
  · rw [if_neg]
    intro q
    rw [q] at nz
    exact nz rfl
  · rw [if_pos]
    cases hj : s.2.2.2 with
    | none =>
      rw [hj] at z
      exact absurd z (by decide)
    | some v =>
      rw [hj] at z
      have v1 := sj v hj
      have z' : nI v = 1 := z
      have := (nI_eq_iff (b := 1) (by omega) (by omega)).mp z'
      rw [this]
theorem c_read {h : HP} {x2 : Int32} (hd : 45 ≤ d) (hk : n < k) (hx : x2 = if wish = true then 1 else 0) (K : TpK G h (b + 1)) (E : TpB h (b + 1) B n) (k7 : Kd G h (b + 7) 5) (k8 : hR h (b + 7) 0 = some (b + 8) ∧ Kd G h (b + 8) 14 ∧ hN h (b + 8) = 424) (sh : ShC G h b)
    (h0 : ∀ e, txF B n k wish 13 (TS0 B n) = .inl e → ∀ h2, FrK (CrF b) (R74 b) h h2 → hZ h2 = hZ h → hU h2 = hU h → hI h2 (b + 1) 1 = nI e → Q (some (va_rf none)) h2)
    (h1 : ∀ s, txF B n k wish 13 (TS0 B n) = .inr s → ∀ h2, FrK (CrF b) (R74 b) h h2 → hZ h2 = hZ h + 6 → hU h2 ≤ hU h + 600 → hI h2 (b + 1) 1 = 0 → ScrC G h2 (hZ h) s.2.2.1 → hI h2 (hZ h) 0 = (if s.2.2.2 = some 1 then 1 else 0) → Q (some (va_rf (some (hZ h)))) h2) : Cal G d mX5_read [.ref (b + 7), .ref (b + 1), .int x2] h Q := by
  have n400 := E.2.1
  refine e_X5_read (by omega) ⟨k7, ?_⟩
  generalize g2 : sI (sI (sI (sI (sR h (b + 7) 4 (some (b + 1))) (b + 7) 5 0) (b + 7) 6 0) (b + 7) 7 0) (b + 7) 8 (-1) = h2
  have KK : KP h h2 := by
    rw [← g2]
    exact (((kp_sR h _ _ _).tr (kp_sI _ _ _ _)).tr ((kp_sI _ _ _ _).tr (kp_sI _ _ _ _))).tr (kp_sI _ _ _ _)
  have zz : hZ h2 = hZ h ∧ hU h2 = hU h := by
    rw [← g2]
    exact ⟨rfl, rfl⟩
  have iv : hI h2 (b + 7) 5 = 0 ∧ hI h2 (b + 7) 6 = 0 ∧ hI h2 (b + 7) 7 = 0 ∧ hI h2 (b + 7) 8 = -1 := by
    rw [← g2]
    simp [hI_sI]
  have i2 : ∀ a k, ¬ (a = b + 7 ∧ 5 ≤ k) → hI h2 a k = hI h a k := fun a k ha => by
    rw [← g2, hI_ne _ _ (by omega), hI_ne _ _ (by omega), hI_ne _ _ (by omega), hI_ne _ _ (by omega), hI_sR]
  have rv : hR h2 (b + 7) 4 = some (b + 1) := by
    rw [← g2, hR_sI, hR_sI, hR_sI, hR_sI, hR_sR, if_pos ⟨rfl, rfl⟩]
  have r2 : ∀ a k, ¬ R74 b a k → hR h2 a k = hR h a k := fun a k ha => by
    rw [← g2, hR_sI, hR_sI, hR_sI, hR_sI, hR_sR, if_neg (show ¬ (a = b + 7 ∧ k = 4) from ha)]
  have FK2 : FrK (CrF b) (R74 b) h h2 := ⟨KK, fun a k _ ha => i2 a k (fun z => ha (Or.inl (Or.inr (Or.inl z)))), fun a k _ ha => r2 a k ha⟩
  have K2 : TpK G h2 (b + 1) := by
    obtain ⟨q1, ⟨q2, q3, q4, q5⟩, ⟨q6, q7⟩, q8⟩ := K
    exact ⟨q1.up KK, ⟨(r2 _ _ (by unfold R74; omega)).trans q2, (r2 _ _ (by unfold R74; omega)).trans q3, (r2 _ _ (by unfold R74; omega)).trans q4, (r2 _ _ (by unfold R74; omega)).trans q5⟩, ⟨q6.up KK, (q6.len KK).trans q7⟩, fun a h1 h2 => ⟨(q8 a h1 h2).1.up KK, ((q8 a h1 h2).1.len KK).trans (q8 a h1 h2).2⟩⟩
  have E2 : TpB h2 (b + 1) B n := by
    obtain ⟨q1, q2, q3, q4⟩ := E
    exact ⟨(i2 _ _ (by omega)).trans q1, q2, fun k hk => (i2 _ _ (by omega)).trans (q3 k hk), q4⟩
  have sh2 : ShC G h2 b := by
    obtain ⟨⟨q1, q2, q3⟩, ⟨q4, q5, q6⟩, q7, q8, q9⟩ := sh
    exact ⟨⟨(r2 _ _ (by unfold R74; omega)).trans q1, q2.up KK, (q2.len KK).trans q3⟩, ⟨(r2 _ _ (by unfold R74; omega)).trans q4, q5.up KK, (q5.len KK).trans q6⟩, (r2 _ _ (by unfold R74; omega)).trans q7, q8.up KK, (q8.len KK).trans q9⟩
  refine ⟨b + 1, rv, K2.1, s_open (by omega) K2 E2 (fun h5 F5 S5 f5 => ⟨rfl, ?_⟩)⟩
  have F5' : FrI (CrF b) h2 h5 := F5.weak (fun a k z => by unfold OpF at z; unfold CrF CcF; omega)
  have i5 : ∀ k, hI h5 (b + 7) k = hI h2 (b + 7) k := fun k => F5.i (by unfold OpF; omega)
  have L5 : LcT G h5 b B n (TS0 B n) [] := by
    refine ⟨⟨S5, ⟨(k7.up KK).up F5.1, (F5.r _ _).trans rv, (F5.r _ _).trans ((r2 _ _ (by unfold R74; omega)).trans k8.1), (k8.2.1.up KK).up F5.1, ((k8.2.1.up KK).len F5.1).trans ((k8.2.1.len KK).trans k8.2.2)⟩, ⟨(i5 _).trans iv.1, (i5 _).trans iv.2.2.1⟩, fun j v hv => ?_⟩, sh2.fr F5, ⟨f5, (i5 _).trans iv.2.1, (i5 _).trans iv.2.2.2⟩, Nat.zero_le _, fun i q hq => ?_⟩
    · simp at hv
    · have hq' : ([] : List Cla)[i]? = some q := hq
      simp at hq'
  have ng : ∀ e h6 (x4 : Int32), txF B n k wish 13 (TS0 B n) = .inl e → ¬ e = 0 → e < 100000 → FrI (CrF b) h2 h6 → hI h6 (b + 1) 1 = nI e → Ex G d mX5_read 37 [(0, .ref (b + 7)), (1, .ref (b + 1)), (2, .int x2), (3, .int 0), (4, .int x4)] [] h6 Q := fun e h6 x4 he ne eb F6 f6 => by
    have nz : ¬ hI h6 (b + 1) 1 = 0 := by
      rw [f6]
      exact fun q => ne ((nI_eq_iff (b := 0) (by omega) (by omega)).mp q)
    have fin : Ex G d mX5_read 78 [(0, .ref (b + 7)), (1, .ref (b + 1)), (2, .int x2), (3, .int 0), (4, .int x4)] [] h6 Q := t_X5_read_78 (by omega) ⟨(k7.up KK).up F6.1, b + 1, (F6.r _ _).trans rv, K2.1.up F6.1, fun z => absurd z nz, fun _ => h0 e he h6 (FK2.tr F6.kk) (F6.2.1.trans zz.1) (F6.2.2.1.trans zz.2) f6⟩
    exact t_X5_read_37 (by omega) ⟨fun _ => fin, fun _ => ⟨fun _ => fin, fun z => absurd rfl z⟩⟩
  have okd : ∀ s C h6 (x4 : Int32), txF B n k wish 13 (TS0 B n) = .inr s → TsP B n wish s → FrI (CrF b) h2 h6 → LcT G h6 b B n s C → Ex G d mX5_read 37 [(0, .ref (b + 7)), (1, .ref (b + 1)), (2, .int x2), (3, .int 0), (4, .int x4)] [] h6 Q := fun s C h6 x4 es S F6 L6 => by
    have ez : hZ h6 = hZ h := F6.2.1.trans zz.1
    have eu : hU h6 = hU h := F6.2.2.1.trans zz.2
    have fin : Ex G d mX5_read 78 [(0, .ref (b + 7)), (1, .ref (b + 1)), (2, .int x2), (3, .int 0), (4, .int x4)] [] h6 Q := c_made (by omega) S L6 (fun h7 F7 z7 u7 f7 s7 v7 => by
      rw [ez] at z7 s7 v7 ⊢
      rw [eu] at u7
      exact h1 s es h7 ((FK2.tr F6.kk).tr F7) z7 u7 f7 s7 v7)
    exact t_X5_read_37 (by omega) ⟨fun _ => fin, fun _ => ⟨fun _ => fin, fun z => absurd rfl z⟩⟩
  have go : ∀ f s C h6, s.2.2.1.length + f = 12 → TsP B n wish s → LcT G h6 b B n s C → FrI (CrF b) h2 h6 → txF B n k wish 13 (TS0 B n) = txF B n k wish (f + 1) s → Ex G d mX5_read 37 [(0, .ref (b + 7)), (1, .ref (b + 1)), (2, .int x2), (3, .int 1), (4, .int (nI s.2.2.1.length))] [] h6 Q := by
    intro f
    induction f with
    | zero =>
      intro s C h6 hc S L6 F6 el
      refine t_X5_read_37 (by omega) ⟨fun z => absurd ((nI_lt_iff (a := 12) (by omega) (by omega)).mp z) (by omega), fun _ => ⟨fun z => absurd z (by decide), fun _ => ⟨L6.1.2.1.1, c_clause (k := k) (by omega) hk hx S L6 ⟨fun e he h7 F7 f7 => ⟨_, rfl, fun _ => ?_, fun z => absurd rfl z⟩, fun u hu => absurd (claR_inr hk S hu).2.1 (by omega)⟩⟩⟩⟩
      have ee := claR_inl hk S he
      exact ng e h7 _ (el.trans (txF_1 he)) (by omega) (by omega) (F6.tr (F7.weak (fun a k z => Or.inl z))) f7
    | succ f ih =>
      intro s C h6 hc S L6 F6 el
      refine t_X5_read_37 (by omega) ⟨fun z => absurd ((nI_lt_iff (a := 12) (by omega) (by omega)).mp z) (by omega), fun _ => ⟨fun z => absurd z (by decide), fun _ => ⟨L6.1.2.1.1, c_clause (k := k) (by omega) hk hx S L6 ⟨fun e he h7 F7 f7 => ⟨_, rfl, fun _ => ?_, fun z => absurd rfl z⟩, fun u hu C7 h7 F7 L7 => ⟨_, rfl, fun z => absurd z (by decide), fun _ => ⟨b + 1, L7.1.2.1.2.1, L7.1.1.f.1, ?_⟩⟩⟩⟩⟩⟩
      · have ee := claR_inl hk S he
        exact ng e h7 _ (el.trans (txF_1 he)) (by omega) (by omega) (F6.tr (F7.weak (fun a k z => Or.inl z))) f7
      · obtain ⟨TP, -, -, ul⟩ := claR_inr hk S hu
        have un : u.1 ≤ n := TP.1.1
        refine s_goesOn (by omega) L7.1.1 (fun z => ⟨_, rfl, fun _ => ?_, fun z => absurd rfl z⟩) (fun z1 z2 h8 F8 S8 => ⟨_, rfl, fun z => absurd z (by decide), fun _ => ?_⟩) (fun z1 z2 h8 F8 f8 => ⟨_, rfl, fun _ => ?_, fun z => absurd rfl z⟩)
        · exact okd u C7 h7 _ (el.trans (txF_2 hu z)) TP (F6.tr (F7.weak (fun a k z => Or.inl z))) L7
        · rw [nI_S, ← ul]
          have L8 : LcT G h8 b B n (nxP B n u.1, u.2) C7 := by
            obtain ⟨t1, t2, ⟨t3, t4, t5⟩, t6, t7⟩ := L7
            have e8 : ∀ a k, a ≠ b + 1 → hI h8 a k = hI h7 a k := fun a k ha => F8.i (fun z => by unfold NxF at z; omega)
            refine ⟨t1.nx F8 S8, t2.fr F8, ⟨(F8.i (by unfold NxF; omega)).trans t3, (e8 _ _ (by omega)).trans t4, (e8 _ _ (by omega)).trans t5⟩, ?_, fun i q hq => ?_⟩
            · show C7.length ≤ nxP B n u.1 + 2 * u.2.2.1.length
              have := nxP_gt (B := B) (kd_lt z1 (by omega))
              omega
            · have := (t7 i q hq).up [] (fun a h1 h2 => e8 a i (by omega))
              rw [List.append_nil] at this
              exact this
          exact ih (nxP B n u.1, u.2) C7 h8 (by show u.2.2.1.length + f = 12; omega) (TP.nx un) L8 ((F6.tr (F7.weak (fun a k z => Or.inl z))).tr (F8.weak (fun a k z => Or.inl (nx_cc z)))) (el.trans (txF_3 hu ⟨z1, z2⟩))
        · exact ng _ h8 _ (el.trans (txF_4 hu z1 z2)) (by omega) (by omega) ((F6.tr (F7.weak (fun a k z => Or.inl z))).tr (F8.weak (fun a k z => Or.inl (cx_cc (fa_cx z))))) f8
  exact go 12 _ [] h5 rfl (ts0_p B n wish) L5 F5' rfl
end TO
