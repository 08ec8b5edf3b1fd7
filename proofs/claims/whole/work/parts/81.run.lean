/-! ===== both machines run a text ===== -/
def SegA (enc : Tok → Int32) (h : HP) (A p : Nat) (l : List Tok) : Prop := ∀ j q, l[j]? = some q → hI h A (p + j) = enc q
theorem SegA.left {enc : Tok → Int32} {h : HP} {A p : Nat} {a b : List Tok} (S : SegA enc h A p (a ++ b)) : SegA enc h A p a := fun j q e => S j q (by
  rw [List.getElem?_append_left (List.getElem?_eq_some_iff.mp e).1]
  exact e)
theorem SegA.right {enc : Tok → Int32} {h : HP} {A p : Nat} {a b : List Tok} (S : SegA enc h A p (a ++ b)) : SegA enc h A (p + a.length) b := fun j q e => by
  have := S (a.length + j) q (by
    rw [List.getElem?_append_right (Nat.le_add_right _ _), Nat.add_sub_cancel_left]
    exact e)
  rw [← Nat.add_assoc] at this
  exact this
theorem SegA.one {enc : Tok → Int32} {h : HP} {A p : Nat} {q : Tok} (S : SegA enc h A p [q]) : hI h A p = enc q := S 0 q rfl
theorem SegA.fr {enc : Tok → Int32} {h h2 : HP} {A p : Nat} {l : List Tok} (e : ∀ k, hI h2 A k = hI h A k) (S : SegA enc h A p l) : SegA enc h2 A p l := fun j q z => (e _).trans (S j q z)
theorem pushN_app (a b : List Tok) : pushN (a ++ b) = pushN a + pushN b := by
  unfold pushN
  rw [List.filter_append, List.length_append]
theorem pushN_op {s : Nat} (hs : 2 ≤ s) : pushN [(s, 0)] = 0 := by
  unfold pushN
  rw [List.filter_cons_of_neg (by simp; omega)]
  rfl
theorem opC {s : Nat} (hs : (2 ≤ s ∧ s ≤ 10) ∨ s = 12 ∨ s = 13) : ¬ encC (s, 0) = -1 ∧ ¬ 0 ≤ encC (s, 0) ∧ -20 < encC (s, 0) ∧ ¬ encC (s, 0) = -13 := by
  have : s = 2 ∨ s = 3 ∨ s = 4 ∨ s = 5 ∨ s = 6 ∨ s = 7 ∨ s = 8 ∨ s = 9 ∨ s = 10 ∨ s = 12 ∨ s = 13 := by omega
  rcases this with rfl | rfl | rfl | rfl | rfl | rfl | rfl | rfl | rfl | rfl | rfl <;> decide
theorem evS_push {w : Nat → Int64} : ∀ (n : Nat) (l : List Tok) (v : Int64), EvS w n l v → 1 ≤ pushN l := by
  intro n
  induction n with
  | zero => intro l v e; exact e.elim
  | succ n ih =>
    intro l v e
    rcases e with ⟨c, -, rfl, -⟩ | ⟨i, -, rfl, -⟩ | ⟨la, lb, s, va, vb, ea, -, -, rfl, -⟩
    · simp [pushN]
    · simp [pushN]
    · rw [pushN_app, pushN_app]
      have := ih la va ea
      omega
theorem evT_push {w : Nat → Int64} : ∀ (n : Nat) (l : List Tok) (v : Int64), EvT w n l v → 1 ≤ pushN l := by
  intro n
  induction n with
  | zero => intro l v e; exact e.elim
  | succ n ih =>
    intro l v e
    rcases e with ⟨m, la, lb, s, va, vb, ea, -, -, rfl, -⟩ | ⟨la, va, ea, rfl, -⟩ | ⟨la, lb, s, va, vb, ea, -, -, rfl, -⟩
    · rw [pushN_app, pushN_app]
      have := evS_push m la va ea
      omega
    · rw [pushN_app]
      have := ih la va ea
      omega
    · rw [pushN_app, pushN_app]
      have := ih la va ea
      omega
section RC
variable {G : GG} {d : Nat} {Q : Option Value → HP → Prop} {a wA : Nat} {w : Nat → Int64} {x1 : Int32}
/-- what a run of the class's Script needs -/
def RunC (G : GG) (h : HP) (a wA : Nat) (w : Nat → Int64) : Prop := Kd G h a 4 ∧ (hR h a 1 = some (a + 1) ∧ Kd G h (a + 1) 14 ∧ hN h (a + 1) ≤ 424) ∧ (hR h a 5 = some (a + 5) ∧ Kd G h (a + 5) 15 ∧ hN h (a + 5) = 64) ∧ (Kd G h wA 15 ∧ hN h wA = 12 ∧ ∀ i, i < 12 → hL h wA i = w i) ∧ wA ≠ a + 5
def nop (_ _ : Nat) : Prop := False
theorem RunC.fr {h h2 : HP} (F : FrS nop (fun x _ => x = a + 5) h h2) (R : RunC G h a wA w) : RunC G h2 a wA w := by
  obtain ⟨a1, ⟨b1, b2, b3⟩, ⟨c1, c2, c3⟩, ⟨d1, d2, d3⟩, e⟩ := R
  exact ⟨F.kd a1, ⟨(F.r _ _).trans b1, F.kd b2, by rw [F.n b2]; exact b3⟩, ⟨(F.r _ _).trans c1, F.kd c2, (F.n c2).trans c3⟩, ⟨F.kd d1, (F.n d1).trans d2, fun i hi => (F.l e).trans (d3 i hi)⟩, e⟩
def KC (G : GG) (d : Nat) (Q : Option Value → HP → Prop) (a wA : Nat) (x1 : Int32) (i : Nat) (st : List Int64) (h : HP) : Prop := Ex G d mX4_run 9 [(0, .ref a), (1, .int x1), (2, .ref wA), (3, .int (nI st.length)), (4, .int (nI i))] [] h Q
theorem c_step {h : HP} {i : Nat} {st : List Int64} {c : Int32} (hd : 1 ≤ d) (R : RunC G h a wA w) (hi : i < hN h (a + 1)) (hc : hI h (a + 1) i = c) (h1 : ¬ c = -1)
    (k1 : 0 ≤ c → Ex G d mX4_run 51 [(0, .ref a), (1, .int x1), (2, .ref wA), (3, .int (nI st.length)), (4, .int (nI i)), (5, .int c)] [] h Q)
    (k2 : ¬ 0 ≤ c → ¬ -20 < c → Ex G d mX4_run 51 [(0, .ref a), (1, .int x1), (2, .ref wA), (3, .int (nI st.length)), (4, .int (nI i)), (5, .int c)] [] h Q)
    (k3 : ¬ 0 ≤ c → -20 < c → ¬ c = -13 → 2 ≤ st.length ∧ st.length ≤ 64 ∧ Cal G (d - 1) mX4_apply [.int c, .long (hL h (a + 5) (st.length - 2)), .long (hL h (a + 5) (st.length - 1))] h (fun r18 h19 => ∃ v21, r18 = some (.long v21) ∧ h19 = h ∧ Ex G d mX4_run 9 [(0, .ref a), (1, .int x1), (2, .ref wA), (3, .int (nI (st.length - 1))), (4, .int (nI (i + 1)))] [] (sL h (a + 5) (st.length - 2) v21) Q))
    (k4 : c = -13 → 1 ≤ st.length ∧ st.length ≤ 64 ∧ Ex G d mX4_run 9 [(0, .ref a), (1, .int x1), (2, .ref wA), (3, .int (nI st.length)), (4, .int (nI (i + 1)))] [] (sL h (a + 5) (st.length - 1) (1 - hL h (a + 5) (st.length - 1))) Q) : KC G d Q a wA x1 i st h := by
  obtain ⟨a1, ⟨b1, b2, b3⟩, ⟨c1, c2, c3⟩, ⟨d1, d2, d3⟩, e⟩ := R
  have cl : (nI i).toNatClampNeg = i := cl_nI (by omega)
  have vi : vp_in (nI i) (hN h (a + 1)) := vin_nI hi (by omega)
  refine t_X4_run_9 hd ⟨a1, a + 1, b1, b2, fun q => ?_, fun _ => ⟨vi, ?_⟩⟩
  · have := (nI_le_iff (a := hN h (a + 1)) (b := i) (by omega) (by omega)).mp q
    omega
  rw [cl, hc]
  refine ⟨fun q => absurd q h1, fun _ => ⟨vi, k1, fun n0 => ⟨fun n20 => ⟨fun n13 => ?_, fun n13 => ?_⟩, k2 n0⟩⟩⟩
  · obtain ⟨l2, l64, k⟩ := k3 n0 n20 n13
    have e1 : nI st.length + -1 = nI (st.length - 1) := by
      have : nI st.length - 1 = nI (st.length - 1) := nS (b := 1) (by omega)
      rw [← this]
      exact (Int32.sub_eq_add_neg _ _).symm
    have e2 : nI st.length + -1 - 1 = nI (st.length - 2) := by
      rw [e1]
      show nI (st.length - 1) - nI 1 = _
      rw [nS (by omega), Nat.sub_sub]
    refine ⟨fun q => ?_, fun _ => ⟨a + 5, c1, c2, by rw [e2, c3]; exact vin_nI (by omega) (by omega), by rw [e1, c3]; exact vin_nI (by omega) (by omega), ?_⟩⟩
    · have := (nI_le_iff (a := st.length) (b := 1) (by omega) (by omega)).mp q
      omega
    rw [e2, e1, cl_nI (by omega), cl_nI (by omega)]
    refine k.mono (fun r h19 kp z => ?_)
    obtain ⟨v, rfl, rfl, z⟩ := z
    exact ⟨v, rfl, by rw [c3]; exact vin_nI (by omega) (by omega), by rw [nI_S]; exact z⟩
  · obtain ⟨l1, l64, k⟩ := k4 n13
    have e1 : nI st.length - 1 = nI (st.length - 1) := nS (b := 1) (by omega)
    refine ⟨fun q => ?_, fun _ => ⟨a + 5, c1, c2, by rw [e1, c3]; exact vin_nI (by omega) (by omega), by rw [e1, c3]; exact vin_nI (by omega) (by omega), ?_⟩⟩
    · have := (nI_le_iff (a := st.length) (b := 0) (by omega) (by omega)).mp q
      omega
    rw [e1, cl_nI (by omega), nI_S]
    exact k
theorem c_push {h : HP} {i : Nat} {st : List Int64} {c : Int32} {v : Int64} (R : RunC G h a wA w) (hs : st.length < 64) (hv : (¬ c < 0 ∧ v = c.toInt64) ∨ (c < 0 ∧ ∃ k, k < 12 ∧ -20 - c = nI k ∧ v = w k)) (k : KC G d Q a wA x1 (i + 1) (v :: st) (sL h (a + 5) st.length v)) : Ex G d mX4_run 51 [(0, .ref a), (1, .int x1), (2, .ref wA), (3, .int (nI st.length)), (4, .int (nI i)), (5, .int c)] [] h Q := by
  obtain ⟨a1, ⟨b1, b2, b3⟩, ⟨c1, c2, c3⟩, ⟨d1, d2, d3⟩, e⟩ := R
  have vs : vp_in (nI st.length) (hN h (a + 5)) := by rw [c3]; exact vin_nI hs (by omega)
  have cs : (nI st.length).toNatClampNeg = st.length := cl_nI (by omega)
  refine t_X4_run_51 ⟨a1, a + 5, c1, c2, fun q => ?_, fun _ => ⟨fun q => ?_, fun q => ?_⟩⟩
  · rw [c3] at q
    have := (nI_le_iff (a := 64) (b := st.length) (by omega) (by omega)).mp q
    omega
  · rcases hv with z | ⟨-, j, hj, ej, ev⟩
    · exact absurd q z.1
    · refine ⟨d1, by rw [ej, d2]; exact vin_nI hj (by omega), vs, ?_⟩
      rw [ej, cs, show (nI j).toNatClampNeg = j from cl_nI (by omega), d3 j hj, nI_S, nI_S, ← ev]
      exact k
  · rcases hv with z | z
    · refine ⟨vs, ?_⟩
      rw [cs, nI_S, nI_S, ← z.2]
      exact k
    · exact absurd z.1 q
theorem c_op {h : HP} {i s : Nat} {st : List Int64} {va vb : Int64} (hd : 1 ≤ d) (R : RunC G h a wA w) (hi : i < hN h (a + 1)) (hs : (2 ≤ s ∧ s ≤ 10) ∨ s = 12 ∨ s = 13) (hc : hI h (a + 1) i = encC (s, 0)) (hl : st.length ≤ 62) (S : StkAt h (a + 5) (vb :: va :: st)) (k : ∀ h2, FrS nop (fun x _ => x = a + 5) h h2 → StkAt h2 (a + 5) (apV s va vb :: st) → KC G d Q a wA x1 (i + 1) (apV s va vb :: st) h2) : KC G d Q a wA x1 i (vb :: va :: st) h := by
  obtain ⟨o1, o2, o3, o4⟩ := opC hs
  obtain ⟨s1, s2, s3⟩ := S
  refine c_step hd R hi hc o1 (fun q => absurd q o2) (fun _ q => absurd o3 q) (fun _ _ _ => ⟨by simp, by simp; omega, ?_⟩) (fun q => absurd q o4)
  have e1 : (vb :: va :: st).length - 2 = st.length := by simp
  have e2 : (vb :: va :: st).length - 1 = (va :: st).length := by simp
  rw [e1, e2, s1, s2]
  refine s_apply hs ⟨_, rfl, rfl, ?_⟩
  exact k _ (frS_sL _ _ rfl) (stk_push _ s3)
theorem c_not {h : HP} {i : Nat} {st : List Int64} {va : Int64} (hd : 1 ≤ d) (R : RunC G h a wA w) (hi : i < hN h (a + 1)) (hc : hI h (a + 1) i = encC (11, 0)) (hl : st.length ≤ 62) (S : StkAt h (a + 5) (va :: st)) (k : ∀ h2, FrS nop (fun x _ => x = a + 5) h h2 → StkAt h2 (a + 5) ((1 - va) :: st) → KC G d Q a wA x1 (i + 1) ((1 - va) :: st) h2) : KC G d Q a wA x1 i (va :: st) h := by
  obtain ⟨s1, s2⟩ := S
  have hc' : hI h (a + 1) i = -13 := hc
  refine c_step hd R hi hc' (by decide) (fun q => absurd q (by decide)) (fun _ q => absurd (show (-20 : Int32) < -13 by decide) q) (fun _ _ q => absurd rfl q) (fun _ => ⟨by simp, by simp; omega, ?_⟩)
  have e1 : (va :: st).length - 1 = st.length := by simp
  rw [e1, s1]
  exact k _ (frS_sL _ _ rfl) (stk_push _ s2)
theorem c_evS (hd : 1 ≤ d) : ∀ (n : Nat) (l : List Tok) (v : Int64) (p : Nat) (st : List Int64) (h : HP), EvS w n l v → SegA encC h (a + 1) p l → p + l.length ≤ hN h (a + 1) → st.length + pushN l ≤ 60 → RunC G h a wA w → StkAt h (a + 5) st → (∀ h2, FrS nop (fun x _ => x = a + 5) h h2 → StkAt h2 (a + 5) (v :: st) → KC G d Q a wA x1 (p + l.length) (v :: st) h2) → KC G d Q a wA x1 p st h := by
  intro n
  induction n with
  | zero => intro l v p st h e; exact e.elim
  | succ n ih =>
    intro l v p st h e S hp hs R K k
    rcases e with ⟨c, hc, rfl, rfl⟩ | ⟨i, hi, rfl, rfl⟩ | ⟨la, lb, s, va, vb, ea, eb, h25, rfl, rfl⟩
    · have e1 : hI h (a + 1) p = c := S.one
      unfold rng at hc
      have z0 : (0 : Int32).toInt = 0 := rfl
      have c0 : 0 ≤ c := by rw [ti_le, z0]; exact hc.1
      have l60 : st.length < 64 := by omega
      have push := c_push (d := d) (Q := Q) (x1 := x1) (i := p) (c := c) (v := c.toInt64) R l60 (Or.inl ⟨by rw [ti_lt, z0]; omega, rfl⟩) (k _ (frS_sL _ _ rfl) (stk_push _ K))
      refine c_step hd R (by simp at hp; omega) e1 (fun q => ?_) (fun _ => push) (fun q => absurd c0 q) (fun q => absurd c0 q) (fun q => ?_)
      · rw [q, tn1] at hc; omega
      · rw [q, show (-13 : Int32).toInt = -13 from rfl] at hc; omega
    · have e1 : hI h (a + 1) p = -20 - nI i := S.one
      have t : (-20 - nI i).toInt = -20 - (i : Int) := by
        rw [ti_sub (by rw [ti_nI (by omega)]; show _ ≤ (-20 : Int) - _; omega) (by rw [ti_nI (by omega)]; show (-20 : Int) - _ < _; omega), ti_nI (by omega)]
        rfl
      have z0 : (0 : Int32).toInt = 0 := rfl
      have zt : (-20 : Int32).toInt = -20 := rfl
      have n0 : -20 - nI i < 0 := by rw [ti_lt, t, z0]; omega
      have ei : -20 - (-20 - nI i) = nI i := by
        refine nI_ti ?_
        rw [ti_sub (by rw [t, zt]; omega) (by rw [t, zt]; omega), t, zt]
        omega
      have push := c_push (d := d) (Q := Q) (x1 := x1) (i := p) (c := -20 - nI i) (v := w i) R (by omega) (Or.inr ⟨n0, i, hi, ei, rfl⟩) (k _ (frS_sL _ _ rfl) (stk_push _ K))
      refine c_step hd R (by simp at hp; omega) e1 (fun q => ?_) (fun q => ?_) (fun _ _ => push) (fun _ q => ?_) (fun q => ?_)
      · rw [q, tn1] at t; omega
      · rw [ti_le, z0, t] at q; omega
      · rw [ti_lt, zt, t] at q; omega
      · rw [q, show (-13 : Int32).toInt = -13 from rfl] at t; omega
    · have Sa := S.left.left
      have Sb := S.left.right
      have So := S.right.one
      simp only [List.length_append, List.length_cons, List.length_nil] at hp So k
      rw [pushN_app, pushN_app, pushN_op h25.1] at hs
      refine ih la va p st h ea Sa (by omega) (by omega) R K (fun h1 F1 K1 => ?_)
      have E1 : ∀ x, hI h1 (a + 1) x = hI h (a + 1) x := fun x => F1.i (fun z => z)
      have N1 : hN h1 (a + 1) = hN h (a + 1) := F1.n R.2.1.2.1
      have pa := evS_push n la va ea
      refine ih lb vb (p + la.length) (va :: st) h1 eb (Sb.fr E1) (by omega) (by simp; omega) (R.fr F1) K1 (fun h2 F2 K2 => ?_)
      have E2 : ∀ x, hI h2 (a + 1) x = hI h (a + 1) x := fun x => (F2.i (fun z => z)).trans (E1 x)
      have N2 : hN h2 (a + 1) = hN h (a + 1) := (F2.n (F1.kd R.2.1.2.1)).trans N1
      refine c_op hd ((R.fr F1).fr F2) (by omega) (Or.inl ⟨h25.1, by omega⟩) ?_ (by omega) K2 (fun h3 F3 K3 => ?_)
      · rw [E2]
        rw [Nat.add_assoc]
        exact So
      · have := k h3 (F1.tr (F2.tr F3)) K3
        rw [show p + la.length + lb.length + 1 = p + (la.length + lb.length + (0 + 1)) by omega]
        exact this
theorem c_evT (hd : 1 ≤ d) : ∀ (n : Nat) (l : List Tok) (v : Int64) (p : Nat) (st : List Int64) (h : HP), EvT w n l v → SegA encC h (a + 1) p l → p + l.length ≤ hN h (a + 1) → st.length + pushN l ≤ 60 → RunC G h a wA w → StkAt h (a + 5) st → (∀ h2, FrS nop (fun x _ => x = a + 5) h h2 → StkAt h2 (a + 5) (v :: st) → KC G d Q a wA x1 (p + l.length) (v :: st) h2) → KC G d Q a wA x1 p st h := by
  intro n
  induction n with
  | zero => intro l v p st h e; exact e.elim
  | succ n ih =>
    intro l v p st h e S hp hs R K k
    rcases e with ⟨m, la, lb, s, va, vb, ea, eb, h25, rfl, rfl⟩ | ⟨la, va, ea, rfl, rfl⟩ | ⟨la, lb, s, va, vb, ea, eb, h25, rfl, rfl⟩
    · have Sa := S.left.left
      have Sb := S.left.right
      have So := S.right.one
      simp only [List.length_append, List.length_cons, List.length_nil] at hp So k
      rw [pushN_app, pushN_app, pushN_op (by omega)] at hs
      refine c_evS hd m la va p st h ea Sa (by omega) (by omega) R K (fun h1 F1 K1 => ?_)
      have E1 : ∀ x, hI h1 (a + 1) x = hI h (a + 1) x := fun x => F1.i (fun z => z)
      have N1 : hN h1 (a + 1) = hN h (a + 1) := F1.n R.2.1.2.1
      have pa := evS_push m la va ea
      refine c_evS hd m lb vb (p + la.length) (va :: st) h1 eb (Sb.fr E1) (by omega) (by simp; omega) (R.fr F1) K1 (fun h2 F2 K2 => ?_)
      have E2 : ∀ x, hI h2 (a + 1) x = hI h (a + 1) x := fun x => (F2.i (fun z => z)).trans (E1 x)
      have N2 : hN h2 (a + 1) = hN h (a + 1) := (F2.n (F1.kd R.2.1.2.1)).trans N1
      refine c_op (s := s) hd ((R.fr F1).fr F2) (by omega) (Or.inl ⟨by omega, by omega⟩) ?_ (by omega) K2 (fun h3 F3 K3 => ?_)
      · rw [E2, Nat.add_assoc]
        exact So
      · have := k h3 (F1.tr (F2.tr F3)) K3
        rw [show p + la.length + lb.length + 1 = p + (la.length + lb.length + (0 + 1)) by omega]
        exact this
    · have Sa := S.left
      have So := S.right.one
      simp only [List.length_append, List.length_cons, List.length_nil] at hp So k
      rw [pushN_app, pushN_op (by omega)] at hs
      refine ih la va p st h ea Sa (by omega) (by omega) R K (fun h1 F1 K1 => ?_)
      have E1 : ∀ x, hI h1 (a + 1) x = hI h (a + 1) x := fun x => F1.i (fun z => z)
      have N1 : hN h1 (a + 1) = hN h (a + 1) := F1.n R.2.1.2.1
      refine c_not hd (R.fr F1) (by omega) ?_ (by omega) K1 (fun h3 F3 K3 => ?_)
      · rw [E1]
        exact So
      · have := k h3 (F1.tr F3) K3
        rw [show p + la.length + 1 = p + (la.length + (0 + 1)) by omega]
        exact this
    · have Sa := S.left.left
      have Sb := S.left.right
      have So := S.right.one
      simp only [List.length_append, List.length_cons, List.length_nil] at hp So k
      rw [pushN_app, pushN_app, pushN_op (by omega)] at hs
      refine ih la va p st h ea Sa (by omega) (by omega) R K (fun h1 F1 K1 => ?_)
      have E1 : ∀ x, hI h1 (a + 1) x = hI h (a + 1) x := fun x => F1.i (fun z => z)
      have N1 : hN h1 (a + 1) = hN h (a + 1) := F1.n R.2.1.2.1
      have pa := evT_push n la va ea
      refine ih lb vb (p + la.length) (va :: st) h1 eb (Sb.fr E1) (by omega) (by simp; omega) (R.fr F1) K1 (fun h2 F2 K2 => ?_)
      have E2 : ∀ x, hI h2 (a + 1) x = hI h (a + 1) x := fun x => (F2.i (fun z => z)).trans (E1 x)
      have N2 : hN h2 (a + 1) = hN h (a + 1) := (F2.n (F1.kd R.2.1.2.1)).trans N1
      refine c_op hd ((R.fr F1).fr F2) (by omega) (Or.inr h25) ?_ (by omega) K2 (fun h3 F3 K3 => ?_)
      · rw [E2, Nat.add_assoc]
        exact So
      · have := k h3 (F1.tr (F2.tr F3)) K3
        rw [show p + la.length + lb.length + 1 = p + (la.length + lb.length + (0 + 1)) by omega]
        exact this
/-- what a text comes to -/
def EvX (w : Nat → Int64) (l : List Tok) (v : Int64) : Prop := (∃ n, EvS w n l v) ∨ ∃ n, EvT w n l v
theorem s_run {h : HP} {l : List Tok} {v : Int64} {p : Nat} (hd : 1 ≤ d) (E : EvX w l v) (S : SegC h (a + 1) p l) (hp : pushN l ≤ 60) (R : RunC G h a wA w) (hQ : ∀ h2, FrS nop (fun x _ => x = a + 5) h h2 → Q (some (.long v)) h2) : Cal G d mX4_run [.ref a, .int (nI p), .ref wA] h Q := by
  have R' := R
  obtain ⟨a1, ⟨b1, b2, b3⟩, ⟨c1, c2, c3⟩, -⟩ := R'
  obtain ⟨s1, s2, s3⟩ := S
  refine e_X4_run hd ?_
  unfold T_X4_run
  have e0 : mxI 0 (nI p) = nI p := by
    rw [ti_eq, ti_mx, show (0 : Int32).toInt = 0 from rfl, ti_nI (by omega)]
    omega
  rw [e0]
  have fin : ∀ h2, FrS nop (fun x _ => x = a + 5) h h2 → StkAt h2 (a + 5) [v] → KC G d Q a wA (nI p) (p + l.length) [v] h2 := by
    intro h2 F K
    have cl : (nI (p + l.length)).toNatClampNeg = p + l.length := cl_nI (by omega)
    have n1 : hN h2 (a + 1) = hN h (a + 1) := F.n b2
    have n5 : hN h2 (a + 5) = 64 := (F.n c2).trans c3
    refine t_X4_run_9 hd ⟨F.kd a1, a + 1, (F.r _ _).trans b1, F.kd b2, fun q => ?_, fun _ => ⟨by rw [n1]; exact vin_nI s1 (by omega), fun _ => t_X4_run_163 ⟨fun q => absurd q (show ¬ (nI 1 : Int32) ≤ 0 by decide), fun _ => ⟨F.kd a1, a + 5, (F.r _ _).trans c1, F.kd c2, by rw [n5]; exact vin_nI (k := 0) (by omega) (by omega), ?_⟩⟩, fun q => absurd ?_ q⟩⟩
    · rw [n1] at q
      have := (nI_le_iff (a := hN h (a + 1)) (b := p + l.length) (by omega) (by omega)).mp q
      omega
    · have k0 : hL h2 (a + 5) 0 = v := K.1
      rw [k0]
      exact hQ h2 F
    · rw [cl, F.i (fun z => z)]
      exact s3
  rcases E with ⟨n, E⟩ | ⟨n, E⟩
  · exact c_evS hd n l v p [] h E s2 (by omega) (by simpa using hp) R trivial fin
  · exact c_evT hd n l v p [] h E s2 (by omega) (by simpa using hp) R trivial fin
end RC
