/-! ===== ways of the class: walking ===== -/
noncomputable def dR (S : Nat → Int32) (g o c : Nat) : Int := @ite _ (rv S o) (Classical.propDecidable _) (-1) (dst (Ed S g) o c)
theorem dR_rv {S : Nat → Int32} {g o c : Nat} (h : rv S o) : dR S g o c = -1 := by
  unfold dR
  exact @if_pos _ (Classical.propDecidable _) h _ _ _
theorem dR_no {S : Nat → Int32} {g o c : Nat} (h : ¬ rv S o) : dR S g o c = dst (Ed S g) o c := by
  unfold dR
  exact @if_neg _ (Classical.propDecidable _) h _ _ _
theorem dR_rng {S : Nat → Int32} {g o c : Nat} (L : Ld40 S) (ho : o < 1600) : dR S g o c = -1 ∨ (0 ≤ dR S g o c ∧ dR S g o c < 1600) := by
  by_cases r : rv S o
  · exact Or.inl (dR_rv r)
  · rw [dR_no r]
    rcases dst_rng (Ed.ged (g := g) L) ho c with e | e
    · exact Or.inl e
    · exact Or.inr ⟨e.1, e.2.1⟩
theorem iI_neg1 : iI (-1) = -1 := rfl
theorem iI_m1 {z : Int} (h1 : -1 ≤ z) (h2 : z < 2147483648) : iI z = -1 ↔ z = -1 := by
  rw [ti_eq, ti_iI (by omega) h2, tn1]
/-- the labels of the class's rows, and the order of finding -/
def WkJ (h : HP) (F U : Nat) (b : BS) : Prop := (∀ c, c < 1600 → hI h F c = iI (b.1 c)) ∧ ∀ i, i < b.2.2 → hI h U i = nI (b.2.1 i)
theorem BI0.lab {E : Nat → Nat → Prop} {o n : Nat} {b : BS} (I : BI0 E o n b) (c : Nat) : -1 ≤ b.1 c ∧ b.1 c < 1600 := by
  have l := I.le
  rcases I.2.2.1 c with q | ⟨i, hi, q⟩
  · omega
  · have := I.2.1 i hi
    rw [q] at this
    omega
section WK
variable {G : GG} {d : Nat} {q s : Nat} {S : Nat → Int32} {Q : Option Value → HP → Prop}
theorem s_walk {h : HP} {g o A : Nat} {x2 : Int32} (hd : 1 ≤ d) (V : Svd G h q s S g) (ho : o < 1600) (hA : A = q + 1 ∨ A = q + 2) (h2 : x2 = -1 ∨ ∃ t, t < 1600 ∧ x2 = nI t)
    (hQ : ∀ h2 r, FrI (fun a _ => a = A ∨ a = q + 3) h h2 → (x2 = -1 → ∀ c, c < 1600 → hI h2 A c = iI (dR S g o c)) → (∀ t, t < 1600 → x2 = nI t → r = iI (dR S g o t)) → Q (some (.int r)) h2) : Cal G d mX10_walk [.ref q, .int (nI o), .int x2, .ref A] h Q := by
  obtain ⟨X, O⟩ := V
  have W := X.2.2.2.1
  have L := W.l40
  have ge := Ed.ged (g := g) L
  have pf : ∀ a (k : Nat), a = A ∨ a = q + 3 → q ≤ a ∧ a ≤ q + 7 := fun a _ e => by omega
  have kA := X.1.1.2.2.1 A (by omega) (by omega)
  obtain ⟨m, hm, em⟩ := W.cell ho
  refine e_X10_walk hd (s_fill kA.1 kA.2 (by omega) ⟨rfl, ?_⟩)
  generalize g0 : fillI h A 1600 (-1) = h0
  have F0 : FrI (fun a _ => a = A ∨ a = q + 3) h h0 := by
    rw [← g0]
    exact FrI.fill h _ (fun _ => Or.inl rfl)
  have v0 : ∀ c, c < 1600 → hI h0 A c = -1 := fun c hc => by rw [← g0, hI_fill, if_pos ⟨rfl, hc⟩]
  have X0 := X.fr F0 pf
  obtain ⟨a1, ⟨b1, b2, b3, b4⟩, ⟨f1, f2⟩, -⟩ := X0.2.1
  refine ⟨X0.1.1.1, s, X0.1.2, a1, s + 1, b1, f1, by rw [f2]; exact vin_nI ho (by omega), ?_⟩
  rw [cl_nI (by omega), X0.2.2.1.2.1 o ho, em, and128 hm]
  refine ⟨fun z => ?_, fun z => ?_⟩
  rotate_left
  · have r : rv S o := (rv_n hm em).mpr (by omega)
    refine hQ h0 _ F0 (fun _ c hc => ?_) (fun t ht _ => ?_)
    · rw [dR_rv r, v0 c hc]
      rfl
    · rw [dR_rv r]
      rfl
  have nr : ¬ rv S o := fun r => by
    rw [rv_n hm em] at r
    omega
  have kA0 := X0.1.1.2.2.1 A (by omega) (by omega)
  have k3 := X0.1.1.2.2.1 (q + 3) (by omega) (by omega)
  refine ⟨kA0.1, by rw [kA0.2]; exact vin_nI ho (by omega), q + 3, X0.1.1.2.1.2.2.1, k3.1, by show vp_in 0 (hN h0 (q + 3)); rw [k3.2]; exact vin_nI (k := 0) (by omega) (by omega), ?_⟩
  -- the loop
  have fr : ∀ h1, FrI (fun a _ => a = A ∨ a = q + 3) h0 h1 → WyX G h1 q s S ∧ OpB h1 q (Ed S g) ∧ FrI (fun a _ => a = A ∨ a = q + 3) h h1 := fun h1 F => by
    refine ⟨X0.fr F pf, fun e he => ?_, F0.tr F⟩
    obtain ⟨k, k1, k2, k3⟩ := O e he
    exact ⟨k, k1, by rw [F.i (by omega), F0.i (by omega)]; exact k2, k3⟩
  have fin : ∀ n h1, FrI (fun a _ => a = A ∨ a = q + 3) h0 h1 → BI0 (Ed S g) o n (bfN (Ed S g) o n) → WkJ h1 A (q + 3) (bfN (Ed S g) o n) → (¬ n < (bfN (Ed S g) o n).2.2 ∨ ∃ t, t < 1600 ∧ x2 = nI t ∧ (bfN (Ed S g) o n).1 t ≠ -1) → ∀ x4 x5, Ex G d mX10_walk 175 [(0, .ref q), (1, .int (nI o)), (2, .int x2), (3, .ref A), (4, .int x4), (5, .int x5)] [] h1 Q := by
    intro n h1 F I J e x4 x5
    obtain ⟨X1, -, F1⟩ := fr h1 F
    have kA1 := X1.1.1.2.2.1 A (by omega) (by omega)
    refine t_X10_walk_175 ⟨fun z => ?_, fun z => ?_⟩
    · rcases h2 with y | ⟨t, ht, y⟩
      · exact absurd y z
      · refine ⟨kA1.1, by rw [y, kA1.2]; exact vin_nI ht (by omega), hQ h1 _ F1 (fun k => absurd k z) (fun t' ht' y' => ?_)⟩
        rw [y'] at y ⊢
        rw [cl_nI (by omega), J.1 t' ht', dR_no nr]
        rcases e with e | ⟨t2, k1, k2, k3⟩
        · rw [dst_of I e]
        · rw [y', nI_eq_iff (by omega) (by omega)] at k2
          subst k2
          rw [dst_early ge I t' k3]
    · refine hQ h1 _ F1 (fun _ c hc => ?_) (fun t ht y => ?_)
      · rw [J.1 c hc, dR_no nr]
        rcases e with e | ⟨t, k1, k2, -⟩
        · rw [dst_of I e]
        · rw [z] at k2
          exact absurd k2.symm (nI_ne_neg (by omega))
      · rw [z] at y
        exact absurd y.symm (nI_ne_neg (by omega))
  have inner : ∀ n h1 c, FrI (fun a _ => a = A ∨ a = q + 3) h0 h1 → c < 1600 → ∀ (m k : Nat) (b : BS) (hk : k + m = 4) (hh : HP), FrI (fun a _ => a = A ∨ a = q + 3) h0 hh → BJ0 (Ed S g) o n k b → b.2.1 n = c → WkJ hh A (q + 3) b → (∀ h3, FrI (fun a _ => a = A ∨ a = q + 3) h0 h3 → WkJ h3 A (q + 3) (foldF (bst (Ed S g) c) b k m) → Ex G d mX10_walk 40 [(0, .ref q), (1, .int (nI o)), (2, .int x2), (3, .ref A), (4, .int (nI (foldF (bst (Ed S g) c) b k m).2.2)), (5, .int (nI (n + 1)))] [] h3 Q) → Ex G d mX10_walk 82 [(0, .ref q), (1, .int (nI o)), (2, .int x2), (3, .ref A), (4, .int (nI b.2.2)), (5, .int (nI n)), (6, .int (nI c)), (7, .int (nI k))] [] hh Q := by
    intro n _ c _ hc m
    induction m with
    | zero =>
      intro k b hk hh F J ec K next
      obtain rfl : k = 4 := by omega
      refine t_X10_walk_82 ⟨fun _ => ?_, fun y => absurd (show (4 : Int32) ≤ nI 4 by decide) y⟩
      rw [nI_S]
      exact next hh F K
    | succ m ih =>
      intro k b hk hh F J ec K next
      obtain ⟨X1, O1, F1⟩ := fr hh F
      obtain ⟨kk, kk1, kk2, kk3⟩ := O1 c hc
      have k5 := X1.1.1.2.2.1 (q + 5) (by omega) (by omega)
      have kA1 := X1.1.1.2.2.1 A (by omega) (by omega)
      have k31 := X1.1.1.2.2.1 (q + 3) (by omega) (by omega)
      have st := J.step ge (show k < 4 by omega)
      rw [ec] at st
      have lb := J.1.lab
      have ble := J.1.le
      have skip : bst (Ed S g) c k b = b → Ex G d mX10_walk 82 [(0, .ref q), (1, .int (nI o)), (2, .int x2), (3, .ref A), (4, .int (nI b.2.2)), (5, .int (nI n)), (6, .int (nI c)), (7, .int (nI k + 1))] [] hh Q := fun e => by
        rw [nI_S]
        rw [e] at st
        refine ih (k + 1) b (by omega) hh F st.1 ec K ?_
        simp only [foldF] at next
        rw [e] at next
        exact next
      refine t_X10_walk_82 ⟨fun y => ?_, fun _ => ⟨X1.1.1.1, q + 5, X1.1.1.2.1.2.2.2.2.1, k5.1, by rw [k5.2]; exact vin_nI hc (by omega), ?_⟩⟩
      · have := (nI_le_iff (a := 4) (b := k) (by omega) (by omega)).mp y
        omega
      rw [cl_nI (by omega), kk2, opk2 kk kk1 k (by omega), kk3 k (by omega)]
      refine ⟨fun y => skip (bst_no (fun z => y z.1)), fun y => ?_⟩
      have d16 := (ge c k (by omega) y).2
      have en : nI c + bsd (nI k).toNatClampNeg = nI (nbC c k) := bsd_nb L y.1
      rw [cl_nI (by omega)] at en
      rw [cl_nI (show k < 2147483648 by omega), en, cl_nI (show nbC c k < 2147483648 by omega), K.1 _ d16]
      have vd : vp_in (nI (nbC c k)) (hN hh A) := by rw [kA1.2]; exact vin_nI d16 (by omega)
      have vk : vp_in (nI k) 4 := vin_nI (by omega) (by omega)
      refine ⟨vk, kA1.1, vd, fun z => skip (bst_no (fun w => z (by rw [w.2]; rfl))), fun z => ?_⟩
      have z' : b.1 (nbC c k) = -1 := (iI_m1 (lb _).1 (by have := (lb (nbC c k)).2; omega)).mp z
      have rm := J.1.room d16 z'
      refine ⟨fun w => ?_, fun _ => ⟨vk, by rw [kA1.2]; exact vin_nI hc (by omega), vd, q + 3, X1.1.1.2.1.2.2.1, vk, k31.1, by show vp_in _ (hN hh (q + 3)); rw [k31.2]; exact vin_nI rm (by omega), fun h21 g1 => ?_⟩⟩
      · have := (nI_le_iff (a := 1600) (b := b.2.2) (by omega) (by omega)).mp w
        omega
      have e := bst_yes y z'
      rw [nI_S, nI_S]
      simp only [foldF] at next
      rw [e] at next st
      rw [cl_nI (by omega), K.1 c hc] at g1
      refine ih (k + 1) (badd c k b) (by omega) h21 (F.tr ?_) st.1 st.2.1 ⟨fun e2 he2 => ?_, fun i hi => ?_⟩ next
      · rw [g1]
        exact (FrI.sI hh _ (Or.inl rfl)).tr (FrI.sI _ _ (Or.inr rfl))
      · rw [g1, hI_ne _ _ (Or.inl (by omega))]
        show _ = iI (if e2 = nbC c k then b.1 c + 1 else b.1 e2)
        by_cases w : e2 = nbC c k
        · rw [if_pos w, w, hI_eq, iI_add]
          rfl
        · rw [if_neg w, hI_ne _ _ (Or.inr w)]
          exact K.1 e2 he2
      · have hi' : i < b.2.2 + 1 := hi
        show hI h21 (q + 3) i = nI (if i = b.2.2 then nbC c k else b.2.1 i)
        rw [g1]
        by_cases w : i = b.2.2
        · rw [if_pos w, w, hI_eq]
        · rw [if_neg w, hI_ne _ _ (Or.inr w), hI_ne _ _ (Or.inl (by omega))]
          exact K.2 i (by omega)
  have loop : ∀ m n h1, n + m = 1600 → FrI (fun a _ => a = A ∨ a = q + 3) h0 h1 → BI0 (Ed S g) o n (bfN (Ed S g) o n) → WkJ h1 A (q + 3) (bfN (Ed S g) o n) → Ex G d mX10_walk 40 [(0, .ref q), (1, .int (nI o)), (2, .int x2), (3, .ref A), (4, .int (nI (bfN (Ed S g) o n).2.2)), (5, .int (nI n))] [] h1 Q := by
    intro m
    induction m with
    | zero =>
      intro n h1 hn F I J
      have le := I.le
      have f := fin n h1 F I J (Or.inl (by omega))
      refine t_X10_walk_40 ⟨fun _ => f _ _, fun _ => ⟨fun _ => f _ _, fun y => absurd ((nI_le_iff (a := 1600) (b := n) (by omega) (by omega)).mpr (by omega)) y⟩⟩
    | succ m ih =>
      intro n h1 hn F I J
      have le := I.le
      obtain ⟨X1, O1, F1⟩ := fr h1 F
      have kA1 := X1.1.1.2.2.1 A (by omega) (by omega)
      have k31 := X1.1.1.2.2.1 (q + 3) (by omega) (by omega)
      have go : n < (bfN (Ed S g) o n).2.2 → Kd G h1 q 10 ∧ ∃ q5, hR h1 q 4 = some q5 ∧ Kd G h1 q5 14 ∧ vp_in (nI n) (hN h1 q5) ∧ Ex G d mX10_walk 82 [(0, .ref q), (1, .int (nI o)), (2, .int x2), (3, .ref A), (4, .int (nI (bfN (Ed S g) o n).2.2)), (5, .int (nI n)), (6, .int (hI h1 q5 (nI n).toNatClampNeg)), (7, .int 0)] [] h1 Q := fun lt => by
        refine ⟨X1.1.1.1, q + 3, X1.1.1.2.1.2.2.1, k31.1, by rw [k31.2]; exact vin_nI (by omega) (by omega), ?_⟩
        rw [cl_nI (by omega), J.2 n lt]
        have nx := bi_next ge I lt
        refine inner n h1 _ F (I.2.1 n lt).1 4 0 _ rfl h1 F (I.start lt) rfl J (fun h3 F3 J3 => ?_)
        rw [← bfN_S lt] at J3 ⊢
        exact ih (n + 1) h3 (by omega) F3 nx.1 J3
      refine t_X10_walk_40 ⟨fun y => ?_, fun y => ⟨fun w => ?_, fun _ => ⟨fun _ => ?_, fun w => ?_⟩⟩⟩
      · rw [nI_le_iff (by omega) (by omega)] at y
        exact fin n h1 F I J (Or.inl (by omega)) _ _
      · have := (nI_le_iff (a := 1600) (b := n) (by omega) (by omega)).mp w
        omega
      · rw [nI_le_iff (by omega) (by omega)] at y
        exact go (by omega)
      · rw [nI_le_iff (by omega) (by omega)] at y
        rcases h2 with e | ⟨t, ht, e⟩
        · exact absurd e w
        · refine ⟨kA1.1, by rw [e, kA1.2]; exact vin_nI ht (by omega), fun _ => go (by omega), fun z => fin n h1 F I J (Or.inr ⟨t, ht, e, ?_⟩) _ _⟩
          rw [e, cl_nI (by omega), J.1 t ht] at z
          exact fun k => z (by rw [k]; rfl)
  refine loop 1600 0 _ rfl ((FrI.sI h0 _ (Or.inl rfl)).tr (FrI.sI _ _ (Or.inr rfl))) (bi_ini ho) ⟨fun c hc => ?_, fun i hi => ?_⟩
  · rw [hI_ne _ _ (Or.inl (by omega))]
    show _ = iI (if c = o then 0 else -1)
    by_cases w : c = o
    · rw [if_pos w, w, hI_eq]
      rfl
    · rw [if_neg w, hI_ne _ _ (Or.inr w)]
      exact v0 c hc
  · have hi' : i < 1 := hi
    obtain rfl : i = 0 := by omega
    rw [hI_eq]
    rfl
end WK
