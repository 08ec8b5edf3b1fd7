/-! ===== the class's tape: bytes are split ===== -/
def TpK (G : GG) (h : HP) (T : Nat) : Prop := Kd G h T 8 ∧ (hR h T 5 = some (T + 1) ∧ hR h T 6 = some (T + 2) ∧ hR h T 7 = some (T + 3) ∧ hR h T 8 = some (T + 4)) ∧ (Kd G h (T + 1) 13 ∧ hN h (T + 1) = 400) ∧ ∀ a, T + 2 ≤ a → a ≤ T + 4 → Kd G h a 14 ∧ hN h a = 401
def TpB (h : HP) (T : Nat) (B : Nat → Int32) (n : Nat) : Prop := hI h T 0 = nI n ∧ n ≤ 400 ∧ (∀ k, k < n → hI h (T + 1) k = B k) ∧ ∀ k, k < n → rng (B k) (-128) 127
theorem TpK.fr {P RP : Nat → Nat → Prop} {G : GG} {h h2 : HP} {T : Nat} (F : FrJ P RP h h2) (hr : ∀ k, ¬ RP T k) (K : TpK G h T) : TpK G h2 T := by
  obtain ⟨k, ⟨r1, r2, r3, r4⟩, ⟨a1, a2⟩, a3⟩ := K
  exact ⟨F.kd k, ⟨(F.r (hr _)).trans r1, (F.r (hr _)).trans r2, (F.r (hr _)).trans r3, (F.r (hr _)).trans r4⟩, ⟨F.kd a1, (F.n a1).trans a2⟩, fun a h1 h2 => ⟨F.kd (a3 a h1 h2).1, (F.n (a3 a h1 h2).1).trans (a3 a h1 h2).2⟩⟩
theorem TpK.fi {P : Nat → Nat → Prop} {G : GG} {h h2 : HP} {T : Nat} (F : FrI P h h2) (K : TpK G h T) : TpK G h2 T := K.fr (F.j (fun _ _ => False)) (fun _ z => z)
theorem TpB.fi {P : Nat → Nat → Prop} {h h2 : HP} {T : Nat} {B : Nat → Int32} {n : Nat} (F : FrI P h h2) (hp : ∀ a k, P a k → (a = T ∧ 1 ≤ k) ∨ (a ≠ T ∧ a ≠ T + 1)) (K : TpB h T B n) : TpB h2 T B n := by
  obtain ⟨a1, a2, a3, a4⟩ := K
  exact ⟨(F.i (fun z => by have := hp _ _ z; omega)).trans a1, a2, fun k hk => (F.i (fun z => by have := hp _ _ z; omega)).trans (a3 k hk), a4⟩
def flW : List (List Int32) → List Int32
  | [] => []
  | w :: ws => w ++ (32 : Int32) :: flW ws
theorem flW_len : (flW wds).length = 114 := by decide +kernel
theorem flW_at : ∀ k, k < 114 → wdAt k = (flW wds).getD k 0 := by decide +kernel
theorem wds_n32 : ∀ w ∈ wds, ∀ x ∈ w, ¬ x = 32 := by decide +kernel
section TW
variable {G : GG} {d : Nat} {h : HP} {T : Nat} {B : Nat → Int32} {n : Nat} {Q : Option Value → HP → Prop}
theorem s_wordOf (hd : 6 ≤ d) (K : TpK G h T) (E : TpB h T B n) {p q : Nat} (hpq : p ≤ q) (hq : q ≤ n) (hQ : Q (some (.int (wix (ltr B p (q - p))))) h) : Cal G d mX8_wordOf [.ref T, .int (nI p), .int (nI q)] h Q := by
  have n400 := E.2.1
  refine e_X8_wordOf ?_
  unfold T_X8_wordOf
  have word : ∀ (r pre : List Int32) (i k : Nat) (x5 : Int32), i + r.length < 114 → (∀ j, j < r.length → wdAt (i + j) = r.getD j 0) → wdAt (i + r.length) = 32 → (∀ x ∈ r, ¬ x = 32) → ((¬ x5 = 0 ∧ pre.length ≤ q - p ∧ ltr B p pre.length = pre) ∨ (x5 = 0 ∧ ¬ (pre.length ≤ q - p ∧ ltr B p pre.length = pre))) → pre.length + r.length < 1000 → (ltr B p (q - p) = pre ++ r → Q (some (.int (nI k))) h) → (¬ ltr B p (q - p) = pre ++ r → Ex G d mX8_wordOf 11 [(0, .ref T), (1, .int (nI p)), (2, .int (nI q)), (3, .int (nI (k + 1))), (4, .int (nI p)), (5, .int 1), (6, .int (nI (i + r.length + 1)))] [] h Q) → Ex G d mX8_wordOf 11 [(0, .ref T), (1, .int (nI p)), (2, .int (nI q)), (3, .int (nI k)), (4, .int (nI (p + pre.length))), (5, .int x5), (6, .int (nI i))] [] h Q := by
    intro r
    induction r with
    | nil =>
      intro pre i k x5 hi _ h32 _ hx hl q1 q0
      simp only [List.length_nil, Nat.add_zero, List.append_nil] at *
      refine t_X8_wordOf_11 (by omega) hd ⟨fun z => ?_, fun _ => ⟨vin_nI hi (by omega), ?_⟩⟩
      · have := (nI_le_iff (a := 114) (b := i) (by omega) (by omega)).mp z
        omega
      rw [cl_nI (by omega), h32, nI_S k, nI_S i]
      refine ⟨fun z => absurd rfl z, fun _ => ⟨fun z => q0 (fun e => ?_), fun z => ⟨fun z2 => q0 (fun e => ?_), fun z2 => q1 ?_⟩⟩⟩
      · rcases hx with hx | hx
        · exact hx.1 z
        · refine hx.2 ?_
          have el : pre.length = q - p := by rw [← e, ltr_len]
          exact ⟨by omega, by rw [el, e]⟩
      · have el : pre.length = q - p := by rw [← e, ltr_len]
        exact z2 (by rw [el, show p + (q - p) = q by omega])
      · rcases hx with hx | hx
        · rw [nI_eq_iff (by omega) (by omega)] at z2
          rw [← hx.2.2, show q - p = pre.length by omega]
        · exact absurd hx.1 z
    | cons c r ih =>
      intro pre i k x5 hi hw h32 hr hx hl q1 q0
      simp only [List.length_cons] at *
      have hc : wdAt i = c := by
        have := hw 0 (by omega)
        rw [Nat.add_zero] at this
        exact this
      have c32 : ¬ c = 32 := hr c List.mem_cons_self
      have go : ∀ x5' : Int32, ((¬ x5' = 0 ∧ (pre ++ [c]).length ≤ q - p ∧ ltr B p (pre ++ [c]).length = pre ++ [c]) ∨ (x5' = 0 ∧ ¬ ((pre ++ [c]).length ≤ q - p ∧ ltr B p (pre ++ [c]).length = pre ++ [c]))) → Ex G d mX8_wordOf 11 [(0, .ref T), (1, .int (nI p)), (2, .int (nI q)), (3, .int (nI k)), (4, .int (nI (p + pre.length) + 1)), (5, .int x5'), (6, .int (nI i + 1))] [] h Q := fun x5' hx' => by
        have := ih (pre ++ [c]) (i + 1) k x5' (by omega) (fun j hj => by
          have := hw (j + 1) (by omega)
          rw [show i + 1 + j = i + (j + 1) by omega]
          exact this) (by rw [show i + 1 + r.length = i + (r.length + 1) by omega]; exact h32) (fun x hx => hr x (List.mem_cons_of_mem _ hx)) hx' (by simp; omega) (fun e => q1 (by rw [e, List.append_assoc]; rfl)) (fun e => by
          rw [show i + 1 + r.length + 1 = i + (r.length + 1) + 1 by omega]
          exact q0 (fun z => e (by rw [z, List.append_assoc]; rfl)))
        rw [nI_S, nI_S, show p + pre.length + 1 = p + (pre ++ [c]).length by simp; omega]
        exact this
      refine t_X8_wordOf_11 (by omega) hd ⟨fun z => ?_, fun _ => ⟨vin_nI (by omega) (by omega), ?_⟩⟩
      · have := (nI_le_iff (a := 114) (b := i) (by omega) (by omega)).mp z
        omega
      rw [cl_nI (by omega), hc]
      refine ⟨fun _ => ⟨fun z => go 0 (Or.inr ⟨rfl, fun y => ?_⟩), fun z => ⟨fun z2 => go 0 (Or.inr ⟨rfl, fun y => ?_⟩), fun z2 => ?_⟩⟩, fun z => absurd z c32⟩
      · rcases hx with hx | hx
        · exact hx.1 z
        · refine hx.2 ⟨by have := y.1; simp at this; omega, ?_⟩
          have e := y.2
          simp only [List.length_append, List.length_cons, List.length_nil] at e
          have e2 : ltr B p (pre.length + (0 + 1)) = ltr B p pre.length ++ [B (p + pre.length)] := rfl
          rw [e2] at e
          exact List.append_inj_left' e rfl
      · rw [nI_le_iff (by omega) (by omega)] at z2
        have := y.1
        simp at this
        omega
      · rw [nI_le_iff (by omega) (by omega)] at z2
        rcases hx with hx | hx
        · refine ⟨K.1, T + 1, K.2.1.1, K.2.2.1.1, by rw [K.2.2.1.2]; exact vin_nI (by omega) (by omega), ?_⟩
          rw [cl_nI (by omega), E.2.2.1 _ (by omega)]
          have e2 : ltr B p (pre ++ [c]).length = ltr B p pre.length ++ [B (p + pre.length)] := by
            simp only [List.length_append, List.length_cons, List.length_nil]
            rfl
          refine ⟨fun z3 => go 0 (Or.inr ⟨rfl, fun y => z3 ?_⟩), fun z3 => go 1 (Or.inl ⟨by decide, by simp; omega, ?_⟩)⟩
          · have e := y.2
            rw [e2] at e
            have := List.append_inj_right' e rfl
            simpa using this
          · rw [e2, hx.2.2, z3]
        · exact absurd hx.1 z
  have words : ∀ (ws : List (List Int32)) (i k : Nat), i + (flW ws).length = 114 → (∀ j, j < (flW ws).length → wdAt (i + j) = (flW ws).getD j 0) → (∀ w ∈ ws, ∀ x ∈ w, ¬ x = 32) → k + ws.length < 1000 → Q (some (.int (fdW ws (ltr B p (q - p)) k))) h → Ex G d mX8_wordOf 11 [(0, .ref T), (1, .int (nI p)), (2, .int (nI q)), (3, .int (nI k)), (4, .int (nI p)), (5, .int 1), (6, .int (nI i))] [] h Q := by
    intro ws
    induction ws with
    | nil =>
      intro i k hi _ _ _ hq
      simp only [flW, List.length_nil, Nat.add_zero] at hi
      refine t_X8_wordOf_11 (by omega) hd ⟨fun _ => hq, fun z => absurd ?_ z⟩
      rw [hi]
      decide
    | cons w ws ih =>
      intro i k hi hw hr hk hq
      simp only [flW, List.length_append, List.length_cons] at hi hw hk
      have h1 : ∀ j, j < w.length → wdAt (i + j) = w.getD j 0 := fun j hj => by
        rw [hw j (by omega), List.getD_eq_getElem?_getD, List.getD_eq_getElem?_getD, List.getElem?_append_left hj]
      have h2 : wdAt (i + w.length) = 32 := by
        rw [hw w.length (by omega), List.getD_eq_getElem?_getD, List.getElem?_append_right (Nat.le_refl _), Nat.sub_self]
        rfl
      have := word w [] i k 1 (by omega) h1 h2 (hr w List.mem_cons_self) (Or.inl ⟨by decide, by simp, rfl⟩) (by simp; omega) (fun e => by
        rw [List.nil_append] at e
        simp only [fdW] at hq
        rw [if_pos e] at hq
        exact hq) (fun e => by
        rw [List.nil_append] at e
        simp only [fdW] at hq
        rw [if_neg e] at hq
        refine ih (i + w.length + 1) (k + 1) (by omega) (fun j hj => ?_) (fun w' h' => hr w' (List.mem_cons_of_mem _ h')) (by omega) hq
        have := hw (w.length + 1 + j) (by omega)
        rw [show i + w.length + 1 + j = i + (w.length + 1 + j) by omega, this, List.getD_eq_getElem?_getD, List.getD_eq_getElem?_getD, List.getElem?_append_right (by omega), show w.length + 1 + j - w.length = j + 1 by omega]
        rfl)
      exact this
  exact words wds 0 0 (by rw [flW_len]) (fun j hj => by rw [flW_len] at hj; rw [Nat.zero_add]; exact flW_at j hj) wds_n32 (by decide) hQ
def SpF (T m a k : Nat) : Prop := (a = T + 2 ∨ a = T + 3 ∨ a = T + 4) ∧ k = m
theorem isL_iff {x : Int32} : isL x = true ↔ ¬ x < 97 ∧ ¬ 122 < x := by
  unfold isL
  rw [decide_eq_true_eq, ti_lt, ti_lt, show (97 : Int32).toInt = 97 from rfl, show (122 : Int32).toInt = 122 from rfl]
  omega
theorem isD_iff {x : Int32} : isD x = true ↔ ¬ x < 48 ∧ ¬ 57 < x := by
  unfold isD
  rw [decide_eq_true_eq, ti_lt, ti_lt, show (48 : Int32).toInt = 48 from rfl, show (57 : Int32).toInt = 57 from rfl]
  omega
theorem s_split (hd : 8 ≤ d) (K : TpK G h T) (E : TpB h T B n) {p m : Nat} (hp : p < n) (hm : m ≤ 400) (em : hI h T 9 = nI m) (hQ : ∀ h2, FrI (SpF T m) h h2 → hI h2 (T + 2) m = nI (kdT B n p) → hI h2 (T + 3) m = nI p → hI h2 (T + 4) m = vlT B n p → Q (some (.int (nI (nxT B n p)))) h2) : Cal G d mX8_split [.ref T, .int (nI p)] h Q := by
  have n400 := E.2.1
  have K2 := K.2.2.2 (T + 2) (by omega) (by omega)
  have K3 := K.2.2.2 (T + 3) (by omega) (by omega)
  have K4 := K.2.2.2 (T + 4) (by omega) (by omega)
  have vm : vp_in (nI m) 401 := vin_nI (by omega) (by omega)
  refine e_X8_split (by omega) ⟨K.1, T + 1, K.2.1.1, K.2.2.1.1, by rw [K.2.2.1.2]; exact vin_nI (by omega) (by omega), T + 3, K.2.1.2.2.1, K3.1, by rw [em, K3.2]; exact vm, ?_⟩
  rw [cl_nI (by omega), E.2.2.1 p hp, em, cl_nI (by omega)]
  generalize g1 : sI h (T + 3) m (nI p) = h1
  have F1 : FrI (SpF T m) h h1 := by
    rw [← g1]
    exact FrI.sI h _ ⟨Or.inr (Or.inl rfl), rfl⟩
  have spf : ∀ a k, SpF T m a k → (a = T ∧ 1 ≤ k) ∨ (a ≠ T ∧ a ≠ T + 1) := fun a k z => by unfold SpF at z; omega
  have K1 := K.fi F1
  have E1 := E.fi F1 spf
  have em1 : hI h1 T 9 = nI m := (F1.i (by unfold SpF; omega)).trans em
  have p1 : hI h1 (T + 3) m = nI p := by rw [← g1, hI_eq]
  -- the last rows
  have fin : ∀ h2 (kd : Nat) (vl : Int32) (nx : Nat), kdT B n p = kd → vlT B n p = vl → nxT B n p = nx → FrI (SpF T m) h1 h2 → hI h2 (T + 2) m = nI kd → hI h2 (T + 3) m = nI p → Q (some (.int (nI nx))) (sI h2 (T + 4) m vl) := fun h2 kd vl nx e1 e2 e3 F2 q1 q2 => by
    rw [← e3]
    refine hQ _ ((F1.tr F2).tr (FrI.sI (P := SpF T m) h2 _ ⟨Or.inr (Or.inr rfl), rfl⟩)) ?_ ?_ ?_
    · rw [hI_ne _ _ (Or.inl (by omega)), e1]
      exact q1
    · rw [hI_ne _ _ (Or.inl (by omega))]
      exact q2
    · rw [hI_eq, e2]
  by_cases cL : isL (B p) = true
  · have cl := isL_iff.mp cL
    refine ⟨fun z => absurd z cl.1, fun _ => ⟨fun z => absurd z cl.2, fun _ => ?_⟩⟩
    refine e_X8_splitWord ?_
    unfold T_X8_splitWord
    have rle := rn_le (P := isL) (B := B) (show p ≤ n by omega)
    have rge := rn_ge isL B n p
    have loop : ∀ c q, c + q = rn isL B n p → p ≤ q → Ex G (d - 1) mX8_splitWord 2 [(0, .ref T), (1, .int (nI p)), (2, .int (nI q))] [] h1 (fun r12 h13 => ∃ v15, r12 = some (.int v15) ∧ Q (some (.int v15)) h13) := by
      intro c
      induction c with
      | zero =>
        intro q hc hpq
        obtain rfl : q = rn isL B n p := by omega
        have stop : Ex G (d - 1) mX8_splitWord 38 [(0, .ref T), (1, .int (nI p)), (2, .int (nI (rn isL B n p)))] [] h1 (fun r12 h13 => ∃ v15, r12 = some (.int v15) ∧ Q (some (.int v15)) h13) := by
          have k2 := K1.2.2.2 (T + 2) (by omega) (by omega)
          have k4 := K1.2.2.2 (T + 4) (by omega) (by omega)
          refine t_X8_splitWord_38 (by omega) ⟨K1.1, T + 2, K1.2.1.2.1, k2.1, by rw [em1, k2.2]; exact vm, T + 4, by rw [hR_sI]; exact K1.2.1.2.2.2, ?_⟩
          rw [em1, cl_nI (by omega)]
          have F2 : FrI (SpF T m) h1 (sI h1 (T + 2) m 1) := FrI.sI h1 _ ⟨Or.inl rfl, rfl⟩
          refine s_wordOf (by omega) (K1.fi F2) (E1.fi F2 spf) hpq rle ⟨_, rfl, k4.1.sI, ?_, ?_⟩
          · rw [hI_ne _ _ (Or.inl (by omega)), em1]
            show vp_in _ (hN h1 (T + 4))
            rw [k4.2]
            exact vm
          · rw [hI_ne _ _ (Or.inl (by omega)), em1, cl_nI (by omega)]
            refine ⟨_, rfl, fin _ 1 _ _ ?_ ?_ ?_ F2 (by rw [hI_eq]; rfl) (by rw [hI_ne _ _ (Or.inl (by omega))]; exact p1)⟩
            · unfold kdT
              rw [if_neg (by omega), if_pos cL]
            · unfold vlT
              rw [if_neg (by omega), if_pos cL]
            · unfold nxT
              rw [if_neg (by omega), if_pos cL]
        have en := rn_end isL B n p
        refine t_X8_splitWord_2 ⟨K1.1, fun _ => stop, fun z => ?_⟩
        rw [E1.1, nI_le_iff (by omega) (by omega)] at z
        refine ⟨T + 1, K1.2.1.1, K1.2.2.1.1, by rw [K1.2.2.1.2]; exact vin_nI (by omega) (by omega), ?_⟩
        rw [cl_nI (by omega), E1.2.2.1 _ (by omega)]
        refine ⟨fun _ => stop, fun z1 => ⟨by rw [K1.2.2.1.2]; exact vin_nI (by omega) (by omega), fun _ => stop, fun z2 => absurd ⟨by omega, isL_iff.mpr ⟨z1, z2⟩⟩ en⟩⟩
      | succ c ih =>
        intro q hc hpq
        have al := rn_all (P := isL) (B := B) (n := n) hpq (by omega)
        have ql := isL_iff.mp al.2
        refine t_X8_splitWord_2 ⟨K1.1, fun z => ?_, fun _ => ⟨T + 1, K1.2.1.1, K1.2.2.1.1, by rw [K1.2.2.1.2]; exact vin_nI (by omega) (by omega), ?_⟩⟩
        · rw [E1.1, nI_le_iff (by omega) (by omega)] at z
          omega
        rw [cl_nI (by omega), E1.2.2.1 _ al.1]
        refine ⟨fun z => absurd z ql.1, fun _ => ⟨by rw [K1.2.2.1.2]; exact vin_nI (by omega) (by omega), fun z => absurd z ql.2, fun _ => ?_⟩⟩
        rw [nI_S]
        exact ih (q + 1) (by omega) (by omega)
    exact loop (rn isL B n p - p) p (by omega) (Nat.le_refl _)
  · have rest : Ex G d mX8_split 35 [(0, .ref T), (1, .int (nI p)), (2, .int (B p))] [] h1 Q := by
      by_cases cD : isD (B p) = true
      · have cd := isD_iff.mp cD
        refine t_X8_split_35 (by omega) ⟨fun z => absurd z cd.1, fun _ => ⟨fun z => absurd z cd.2, fun _ => ⟨K1.1, e_X8_splitNumber ?_⟩⟩⟩
        unfold T_X8_splitNumber
        have rle := rn_le (P := isD) (B := B) (show p ≤ n by omega)
        have rge := rn_ge isD B n p
        have dg : ∀ i, i < rn isD B n p - p → isD (B (p + i)) = true := fun i hi => (rn_all (P := isD) (B := B) (n := n) (p := p) (i := p + i) (by omega) (by omega)).2
        have loop : ∀ c q, c + q = rn isD B n p → p ≤ q → Ex G (d - 1) mX8_splitNumber 4 [(0, .ref T), (1, .int (nI p)), (2, .int (nI (dgF B p (if 5 ≤ q - p then 5 else q - p)))), (3, .int (nI q))] [] h1 (fun r7 h8 => ∃ v11, r7 = some (.int v11) ∧ Q (some (.int v11)) h8) := by
          intro c
          induction c with
          | zero =>
            intro q hc hpq
            obtain rfl : q = rn isD B n p := by omega
            have stop : Ex G (d - 1) mX8_splitNumber 62 [(0, .ref T), (1, .int (nI p)), (2, .int (nI (dgF B p (if 5 ≤ rn isD B n p - p then 5 else rn isD B n p - p)))), (3, .int (nI (rn isD B n p)))] [] h1 (fun r7 h8 => ∃ v11, r7 = some (.int v11) ∧ Q (some (.int v11)) h8) := by
              have k2 := K1.2.2.2 (T + 2) (by omega) (by omega)
              have k4 := K1.2.2.2 (T + 4) (by omega) (by omega)
              have F2 : FrI (SpF T m) h1 (sI h1 (T + 2) m 2) := FrI.sI h1 _ ⟨Or.inl rfl, rfl⟩
              refine t_X8_splitNumber_62 ⟨K1.1, T + 2, K1.2.1.2.1, k2.1, by rw [em1, k2.2]; exact vm, T + 4, by rw [hR_sI]; exact K1.2.1.2.2.2, ?_⟩
              rw [em1, cl_nI (by omega), hI_ne _ _ (Or.inl (by omega)), em1, cl_nI (by omega), nS rge]
              have v4 : vp_in (nI m) (hN (sI h1 (T + 2) m 2) (T + 4)) := by
                show vp_in _ (hN h1 (T + 4))
                rw [k4.2]
                exact vm
              refine ⟨fun z => ⟨k4.1.sI, v4, fun h11 g11 => ⟨_, rfl, ?_⟩⟩, fun z => ⟨k4.1.sI, v4, fun h16 g16 => ⟨_, rfl, ?_⟩⟩⟩
              · have z := (nI_le_iff (b := 5) (by omega) (by omega)).mp z
                rw [g11]
                refine fin _ 2 _ _ ?_ ?_ ?_ F2 (by rw [hI_eq]; rfl) (by rw [hI_ne _ _ (Or.inl (by omega))]; exact p1)
                · unfold kdT
                  rw [if_neg (by omega), if_neg cL, if_pos cD]
                · unfold vlT
                  rw [if_neg (by omega), if_neg cL, if_pos cD, if_neg (by omega)]
                  congr 2
                  split <;> omega
                · unfold nxT
                  rw [if_neg (by omega), if_neg cL, if_pos cD]
              · have z : ¬ rn isD B n p - p ≤ 5 := fun q => z ((nI_le_iff (b := 5) (by omega) (by omega)).mpr q)
                rw [g16]
                refine fin _ 2 _ _ ?_ ?_ ?_ F2 (by rw [hI_eq]; rfl) (by rw [hI_ne _ _ (Or.inl (by omega))]; exact p1)
                · unfold kdT
                  rw [if_neg (by omega), if_neg cL, if_pos cD]
                · unfold vlT
                  rw [if_neg (by omega), if_neg cL, if_pos cD, if_pos (by omega)]
                · unfold nxT
                  rw [if_neg (by omega), if_neg cL, if_pos cD]
            have en := rn_end isD B n p
            refine t_X8_splitNumber_4 ⟨K1.1, fun _ => stop, fun z => ?_⟩
            rw [E1.1, nI_le_iff (by omega) (by omega)] at z
            refine ⟨T + 1, K1.2.1.1, K1.2.2.1.1, by rw [K1.2.2.1.2]; exact vin_nI (by omega) (by omega), ?_⟩
            rw [cl_nI (by omega), E1.2.2.1 _ (by omega)]
            refine ⟨fun _ => stop, fun z1 => ⟨by rw [K1.2.2.1.2]; exact vin_nI (by omega) (by omega), fun _ => stop, fun z2 => absurd ⟨by omega, isD_iff.mpr ⟨z1, z2⟩⟩ en⟩⟩
          | succ c ih =>
            intro q hc hpq
            have al := rn_all (P := isD) (B := B) (n := n) hpq (by omega)
            have ql := isD_iff.mp al.2
            have vq : vp_in (nI q) (hN h1 (T + 1)) := by rw [K1.2.2.1.2]; exact vin_nI (by omega) (by omega)
            have nx := ih (q + 1) (by omega) (by omega)
            refine t_X8_splitNumber_4 ⟨K1.1, fun z => ?_, fun _ => ⟨T + 1, K1.2.1.1, K1.2.2.1.1, vq, ?_⟩⟩
            · rw [E1.1, nI_le_iff (by omega) (by omega)] at z
              omega
            rw [cl_nI (by omega), E1.2.2.1 _ al.1, nS hpq, nI_S]
            refine ⟨fun z => absurd z ql.1, fun _ => ⟨vq, fun z => absurd z ql.2, fun _ => ⟨fun z => ?_, fun z => ⟨vq, ?_⟩⟩⟩⟩
            · have z := (nI_le_iff (a := 5) (by omega) (by omega)).mp z
              rw [if_pos z]
              rw [if_pos (by omega)] at nx
              exact nx
            · have z : ¬ 5 ≤ q - p := fun y => z ((nI_le_iff (a := 5) (by omega) (by omega)).mpr y)
              rw [if_neg z]
              have ds := (dg_step (B := B) (p := p) (k := q - p) (by omega) (fun i hi => dg i (by omega))).1
              rw [show p + (q - p) = q by omega] at ds
              rw [ds]
              have e : (if 5 ≤ q + 1 - p then 5 else q + 1 - p) = q - p + 1 := by split <;> omega
              rw [e] at nx
              exact nx
        have := loop (rn isD B n p - p) p (by omega) (Nat.le_refl _)
        rw [Nat.sub_self, if_neg (by omega)] at this
        exact this
      · -- a sign
        have sg : ∀ x : Int32, (x = 0 ∧ wdeB B n p = false) ∨ (x = 1 ∧ wdeB B n p = true) → Ex G d mX8_split 93 [(0, .ref T), (1, .int (nI p)), (2, .int (B p))] [.int x] h1 Q := fun x hx => by
          have k2 := K1.2.2.2 (T + 2) (by omega) (by omega)
          have k4 := K1.2.2.2 (T + 4) (by omega) (by omega)
          have F2 : FrI (SpF T m) h1 (sI h1 (T + 2) m 3) := FrI.sI h1 _ ⟨Or.inl rfl, rfl⟩
          have v4 : vp_in (nI m) (hN (sI h1 (T + 2) m 3) (T + 4)) := by
            show vp_in _ (hN h1 (T + 4))
            rw [k4.2]
            exact vm
          have kd : kdT B n p = 3 := by
            unfold kdT
            rw [if_neg (by omega), if_neg cL, if_neg cD]
          have c3 : hI (sI h1 (T + 2) m 3) (T + 2) m = nI 3 := by rw [hI_eq]; rfl
          have c4 : hI (sI h1 (T + 2) m 3) (T + 3) m = nI p := by rw [hI_ne _ _ (Or.inl (by omega))]; exact p1
          refine t_X8_split_93 ⟨K1.1, T + 2, K1.2.1.2.1, k2.1, by rw [em1, k2.2]; exact vm, T + 4, by rw [hR_sI]; exact K1.2.1.2.2.2, ?_⟩
          rw [em1, cl_nI (by omega), hI_ne _ _ (Or.inl (by omega)), em1]
          have end' : ∀ vl : Int32, vlT B n p = vl → Ex G d mX8_split 135 [(0, .ref T), (1, .int (nI p)), (2, .int (B p)), (3, .int x)] [.int vl, .int (nI m), .ref (T + 4)] (sI h1 (T + 2) m 3) Q := fun vl evl => by
            refine t_X8_split_135 ⟨k4.1.sI, v4, fun z => ?_, fun z => ?_⟩
            · rw [cl_nI (by omega), nI_S]
              refine fin _ 3 _ _ kd evl ?_ F2 c3 c4
              unfold nxT
              rw [if_neg (by omega), if_neg cL, if_neg cD]
              rcases hx with ⟨-, w⟩ | ⟨w, -⟩
              · rw [w, if_neg (by decide)]
              · rw [w] at z
                exact absurd z (by decide)
            · rw [cl_nI (by omega), show nI p + 2 = nI (p + 2) from nA p 2]
              refine fin _ 3 _ _ kd evl ?_ F2 c3 c4
              unfold nxT
              rw [if_neg (by omega), if_neg cL, if_neg cD]
              rcases hx with ⟨w, -⟩ | ⟨-, w⟩
              · exact absurd w z
              · rw [w, if_pos rfl]
          have ev : vlT B n p = if wdeB B n p = true then (if B p = 60 then 256 else 257) else B p := by
            unfold vlT
            rw [if_neg (by omega), if_neg cL, if_neg cD]
          refine ⟨fun z => ⟨fun z2 => end' _ ?_, fun z2 => end' _ ?_⟩, fun z => end' _ ?_⟩
          · rcases hx with ⟨w, -⟩ | ⟨-, w⟩
            · exact absurd w z
            · rw [ev, w, if_pos rfl, if_neg z2]
          · rcases hx with ⟨w, -⟩ | ⟨-, w⟩
            · exact absurd w z
            · rw [ev, w, if_pos rfl, if_pos z2]
          · rcases hx with ⟨-, w⟩ | ⟨w, -⟩
            · rw [ev, w, if_neg (by decide)]
            · rw [w] at z
              exact absurd z (by decide)
        have s65 : (B p = 60 ∨ B p = 62) → Ex G d mX8_split 65 [(0, .ref T), (1, .int (nI p)), (2, .int (B p))] [] h1 Q := fun ob => by
          refine t_X8_split_65 ⟨K1.1, fun z => sg 0 (Or.inl ⟨rfl, ?_⟩), fun z => ?_⟩
          · rw [E1.1, nI_S, nI_le_iff (by omega) (by omega)] at z
            unfold wdeB
            rw [decide_eq_false_iff_not]
            omega
          · rw [E1.1, nI_S, nI_le_iff (by omega) (by omega)] at z
            refine ⟨T + 1, K1.2.1.1, K1.2.2.1.1, by rw [nI_S, K1.2.2.1.2]; exact vin_nI (by omega) (by omega), ?_⟩
            rw [nI_S, cl_nI (by omega), E1.2.2.1 _ (by omega)]
            refine ⟨fun y => sg 0 (Or.inl ⟨rfl, ?_⟩), fun y => sg 1 (Or.inr ⟨rfl, ?_⟩)⟩
            · unfold wdeB
              rw [decide_eq_false_iff_not]
              exact fun k => y k.2.2
            · unfold wdeB
              rw [decide_eq_true_eq]
              exact ⟨ob, by omega, y⟩
        have s93 : ¬ B p = 60 → ¬ B p = 62 → Ex G d mX8_split 93 [(0, .ref T), (1, .int (nI p)), (2, .int (B p))] [.int 0] h1 Q := fun a b => sg 0 (Or.inl ⟨rfl, by
          unfold wdeB
          rw [decide_eq_false_iff_not]
          exact fun k => k.1.elim a b⟩)
        refine t_X8_split_35 (by omega) ⟨fun _ => ⟨fun a => s65 (Or.inl a), fun a => ⟨fun b => s93 a b, fun b => s65 (Or.inr b)⟩⟩, fun z => ⟨fun _ => ⟨fun a => s65 (Or.inl a), fun a => ⟨fun b => s93 a b, fun b => s65 (Or.inr b)⟩⟩, fun z2 => absurd (isD_iff.mpr ⟨z, z2⟩) cD⟩⟩
    exact ⟨fun _ => rest, fun z => ⟨fun _ => rest, fun z2 => absurd (isL_iff.mpr ⟨z, z2⟩) cL⟩⟩
/-- what the rows hold of the tokens ahead of m -/
def TkA (h : HP) (T : Nat) (B : Nat → Int32) (n m : Nat) : Prop := ∀ i, i < m → hI h (T + 2) i = nI (kdT B n (ptk B n i)) ∧ hI h (T + 3) i = nI (ptk B n i) ∧ hI h (T + 4) i = vlT B n (ptk B n i)
/-- the reader stands at p -/
def TpS (G : GG) (h : HP) (T : Nat) (B : Nat → Int32) (n p : Nat) : Prop := TpK G h T ∧ TpB h T B n ∧ ∃ i m, i ≤ m ∧ m ≤ 400 ∧ ptk B n m = n ∧ p = ptk B n i ∧ (∀ j, j < m → ptk B n j < n) ∧ TkA h T B n (m + 1) ∧ hI h T 9 = nI m ∧ hI h T 10 = nI i ∧ hI h T 2 = nI (kdT B n p) ∧ hI h T 3 = nI p ∧ hI h T 4 = vlT B n p
def NxF (T a k : Nat) : Prop := a = T ∧ (k = 2 ∨ k = 3 ∨ k = 4 ∨ k = 10)
theorem TpS.pn {p : Nat} (S : TpS G h T B n p) : At B n p := by
  obtain ⟨-, -, i, m, -, -, -, e, -⟩ := S
  rw [e]
  exact at_ptk B n i
theorem next21 {i m : Nat} (K : TpK G h T) (E : TpB h T B n) (hi : i ≤ m) (hm : m ≤ 400) (em : ptk B n m = n) (lt : ∀ j, j < m → ptk B n j < n) (A : TkA h T B n (m + 1)) (e9 : hI h T 9 = nI m) (e10 : hI h T 10 = nI i) (hQ : ∀ h2, FrI (NxF T) h h2 → TpS G h2 T B n (ptk B n i) → Q none h2) : Ex G d mX8_next 21 [(0, .ref T)] [] h Q := by
  have K2 := K.2.2.2 (T + 2) (by omega) (by omega)
  have K3 := K.2.2.2 (T + 3) (by omega) (by omega)
  have K4 := K.2.2.2 (T + 4) (by omega) (by omega)
  obtain ⟨a1, a2, a3⟩ := A i (by omega)
  have vi : vp_in (nI i) 401 := vin_nI (by omega) (by omega)
  refine t_X8_next_21 ⟨K.1, T + 2, K.2.1.2.1, K2.1, by rw [e10, K2.2]; exact vi, T + 3, by rw [hR_sI]; exact K.2.1.2.2.1, K3.1.sI, ?_, fun h10 g10 => ⟨T + 4, ?_, ?_, ?_, ?_⟩⟩
  · rw [hI_ne _ _ (Or.inr (by omega)), e10]
    show vp_in _ (hN h (T + 3))
    rw [K3.2]
    exact vi
  all_goals rw [hI_ne _ _ (Or.inr (show 10 ≠ 2 by omega)), e10, cl_nI (by omega), hI_ne _ _ (Or.inl (show T + 3 ≠ T by omega)), a1, a2] at g10
  · rw [g10, hR_sI, hR_sI]
    exact K.2.1.2.2.2
  · rw [g10]
    exact K4.1.sI.sI
  · rw [g10, hI_ne _ _ (Or.inr (by omega)), hI_ne _ _ (Or.inr (by omega)), e10]
    show vp_in _ (hN h (T + 4))
    rw [K4.2]
    exact vi
  · have e1 : hI h10 T 10 = nI i := by rw [g10, hI_ne _ _ (Or.inr (by omega)), hI_ne _ _ (Or.inr (by omega)), e10]
    have e2 : hI h10 (T + 4) i = vlT B n (ptk B n i) := by rw [g10, hI_ne _ _ (Or.inl (by omega)), hI_ne _ _ (Or.inl (by omega)), a3]
    rw [e1, cl_nI (by omega), e2]
    have F : FrI (NxF T) h (sI h10 T 4 (vlT B n (ptk B n i))) := by
      rw [g10]
      exact ((FrI.sI (P := NxF T) h _ ⟨rfl, Or.inl rfl⟩).tr (FrI.sI (P := NxF T) _ _ ⟨rfl, Or.inr (Or.inl rfl)⟩)).tr (FrI.sI (P := NxF T) _ _ ⟨rfl, Or.inr (Or.inr (Or.inl rfl))⟩)
    refine hQ _ F ⟨K.fi F, E.fi F (fun a k z => by unfold NxF at z; omega), i, m, hi, hm, em, rfl, lt, fun j hj => ?_, ?_, ?_, ?_, ?_, ?_⟩
    · rw [F.i (by unfold NxF; omega), F.i (a := T + 3) (by unfold NxF; omega), F.i (a := T + 4) (by unfold NxF; omega)]
      exact A j hj
    · rw [F.i (by unfold NxF; omega)]
      exact e9
    · rw [hI_ne _ _ (Or.inr (by omega))]
      exact e1
    · rw [hI_ne _ _ (Or.inr (by omega)), g10, hI_ne _ _ (Or.inr (by omega)), hI_eq]
    · rw [hI_ne _ _ (Or.inr (by omega)), g10, hI_eq]
    · rw [hI_eq]
theorem s_next {p : Nat} (S : TpS G h T B n p) (hQ : ∀ h2, FrI (NxF T) h h2 → TpS G h2 T B n (nxP B n p) → Q none h2) : Cal G d mX8_next [.ref T] h Q := by
  obtain ⟨K, E, i, m, hi, hm, em, ep, lt, A, e9, e10, e2, e3, e4⟩ := S
  refine e_X8_next ⟨K.1, fun z => ?_, fun z => ?_⟩
  · rw [e9, e10, nI_le_iff (by omega) (by omega)] at z
    obtain rfl : i = m := by omega
    refine next21 K E (Nat.le_refl _) hm em lt A e9 e10 (fun h2 F S2 => hQ h2 F ?_)
    rw [em] at S2
    rw [ep, em, nxP_end]
    exact S2
  · rw [e9, e10, nI_le_iff (by omega) (by omega)] at z
    rw [e10, nI_S]
    have F1 : FrI (NxF T) h (sI h T 10 (nI (i + 1))) := FrI.sI h _ ⟨rfl, Or.inr (Or.inr (Or.inr rfl))⟩
    refine next21 (i := i + 1) (K.fi F1) (E.fi F1 (fun a k z => by unfold NxF at z; omega)) (by omega) hm em lt (fun j hj => ?_) ?_ (hI_eq _ _ _ _) (fun h2 F S2 => hQ h2 (F1.tr F) ?_)
    · rw [F1.i (by unfold NxF; omega), F1.i (a := T + 3) (by unfold NxF; omega), F1.i (a := T + 4) (by unfold NxF; omega)]
      exact A j hj
    · rw [hI_ne _ _ (Or.inr (by omega))]
      exact e9
    · rw [ep]
      exact S2
def OpF (T a k : Nat) : Prop := (a = T ∧ 1 ≤ k) ∨ a = T + 2 ∨ a = T + 3 ∨ a = T + 4
theorem s_open (hd : 9 ≤ d) (K : TpK G h T) (E : TpB h T B n) (hQ : ∀ h2, FrI (OpF T) h h2 → TpS G h2 T B n (skp B n 0) → hI h2 T 1 = 0 → Q none h2) : Cal G d mX8_open [.ref T] h Q := by
  have n400 := E.2.1
  have opf : ∀ a k, OpF T a k → (a = T ∧ 1 ≤ k) ∨ (a ≠ T ∧ a ≠ T + 1) := fun a k z => by unfold OpF at z; omega
  refine e_X8_open ⟨K.1, ?_⟩
  have loop : ∀ c at' j to h1, at' + c = n → FrI (OpF T) h h1 → hI h1 T 9 = nI j → j ≤ at' → (∀ i, i < j → ptk B n i < at') → at' ≤ ptk B n j → TkA h1 T B n j → (∃ t, to = nI t ∧ ptk B n j = skp B n t ∧ t ≤ n) → Ex G d mX8_open 9 [(0, .ref T), (1, .int to), (2, .int (nI at'))] [] h1 Q := by
    intro c
    induction c with
    | zero =>
      intro at' j to h1 hc F e9 hj lt ge A _
      obtain rfl : at' = n := by omega
      have K1 := K.fi F
      have E1 := E.fi F opf
      have en : ptk B at' j = at' := by have := (at_ptk B at' j).1; omega
      have K2 := K1.2.2.2 (T + 2) (by omega) (by omega)
      have K3 := K1.2.2.2 (T + 3) (by omega) (by omega)
      have K4 := K1.2.2.2 (T + 4) (by omega) (by omega)
      have vj : vp_in (nI j) 401 := vin_nI (by omega) (by omega)
      have kd : kdT B at' at' = 0 := by
        unfold kdT
        rw [if_pos (Nat.le_refl _)]
      have vl : vlT B at' at' = -1 := by
        unfold vlT
        rw [if_pos (Nat.le_refl _)]
      refine t_X8_open_9 (by omega) ⟨K1.1, fun _ => ⟨T + 2, K1.2.1.2.1, K2.1, by rw [e9, K2.2]; exact vj, T + 3, by rw [hR_sI]; exact K1.2.1.2.2.1, K3.1.sI, ?_, fun h11 g11 => ⟨T + 4, ?_, ?_, ?_, ?_⟩⟩, fun z => ?_⟩
      · rw [hI_ne _ _ (Or.inl (by omega)), e9]
        show vp_in _ (hN h1 (T + 3))
        rw [K3.2]
        exact vj
      · rw [g11, hR_sI, hR_sI]
        exact K1.2.1.2.2.2
      · rw [g11]
        exact K4.1.sI.sI
      · rw [hI_ne _ _ (Or.inl (show T ≠ T + 2 by omega)), hI_ne _ _ (Or.inl (show T ≠ T + 2 by omega)), e9, cl_nI (by omega), E1.1] at g11
        rw [g11, hI_ne _ _ (Or.inl (by omega)), hI_ne _ _ (Or.inl (by omega)), e9]
        show vp_in _ (hN h1 (T + 4))
        rw [K4.2]
        exact vj
      · rw [hI_ne _ _ (Or.inl (show T ≠ T + 2 by omega)), hI_ne _ _ (Or.inl (show T ≠ T + 2 by omega)), e9, cl_nI (by omega), E1.1] at g11
        have e11 : hI h11 T 9 = nI j := by rw [g11, hI_ne _ _ (Or.inl (by omega)), hI_ne _ _ (Or.inl (by omega)), e9]
        rw [e11, cl_nI (by omega)]
        generalize g12 : sI (sI (sI h11 (T + 4) j (-1)) T 1 0) T 10 (-1) = h12
        have F2 : FrI (OpF T) h1 h12 := by
          rw [← g12, g11]
          exact ((((FrI.sI (P := OpF T) h1 _ (Or.inr (Or.inl rfl))).tr (FrI.sI (P := OpF T) _ _ (Or.inr (Or.inr (Or.inl rfl))))).tr (FrI.sI (P := OpF T) _ _ (Or.inr (Or.inr (Or.inr rfl))))).tr (FrI.sI (P := OpF T) _ _ (Or.inl ⟨rfl, by omega⟩))).tr (FrI.sI (P := OpF T) _ _ (Or.inl ⟨rfl, by omega⟩))
        have K12 := K1.fi F2
        have E12 := E1.fi F2 opf
        have e9' : hI h12 T 9 = nI j := by rw [← g12, hI_ne _ _ (Or.inr (by omega)), hI_ne _ _ (Or.inr (by omega)), hI_ne _ _ (Or.inl (by omega)), e11]
        have A12 : TkA h12 T B at' (j + 1) := fun i hi => by
          have r2 : hI h12 (T + 2) i = if i = j then 0 else hI h1 (T + 2) i := by
            rw [← g12, hI_ne _ _ (Or.inl (by omega)), hI_ne _ _ (Or.inl (by omega)), hI_ne _ _ (Or.inl (by omega)), g11, hI_ne _ _ (Or.inl (by omega)), hI_sI]
            by_cases c : i = j
            · rw [if_pos ⟨rfl, c⟩, if_pos c]
            · rw [if_neg (fun z => c z.2), if_neg c]
          have r3 : hI h12 (T + 3) i = if i = j then nI at' else hI h1 (T + 3) i := by
            rw [← g12, hI_ne _ _ (Or.inl (by omega)), hI_ne _ _ (Or.inl (by omega)), hI_ne _ _ (Or.inl (by omega)), g11, hI_sI]
            by_cases c : i = j
            · rw [if_pos ⟨rfl, c⟩, if_pos c]
            · rw [if_neg (fun z => c z.2), if_neg c, hI_ne _ _ (Or.inl (by omega))]
          have r4 : hI h12 (T + 4) i = if i = j then -1 else hI h1 (T + 4) i := by
            rw [← g12, hI_ne _ _ (Or.inl (by omega)), hI_ne _ _ (Or.inl (by omega)), hI_sI]
            by_cases c : i = j
            · rw [if_pos ⟨rfl, c⟩, if_pos c]
            · rw [if_neg (fun z => c z.2), if_neg c, g11, hI_ne _ _ (Or.inl (by omega)), hI_ne _ _ (Or.inl (by omega))]
          rw [r2, r3, r4]
          by_cases c : i = j
          · rw [if_pos c, if_pos c, if_pos c, c, en, kd, vl]
            exact ⟨rfl, rfl, rfl⟩
          · rw [if_neg c, if_neg c, if_neg c]
            exact A i (by omega)
        have lt' : ∀ i, i < j → ptk B at' i < at' := lt
        have e10 : hI h12 T 10 = -1 := by rw [← g12, hI_eq]
        refine e_X8_next ⟨K12.1, fun z => ?_, fun _ => ?_⟩
        · rw [e9', e10, ti_le, ti_nI (by omega), tn1] at z
          omega
        · rw [e10, show (-1 : Int32) + 1 = nI 0 from rfl]
          have F3 : FrI (OpF T) h12 (sI h12 T 10 (nI 0)) := FrI.sI h12 _ (Or.inl ⟨rfl, by omega⟩)
          refine next21 (i := 0) (m := j) (K12.fi F3) (E12.fi F3 opf) (by omega) (by omega) en lt' (fun i hi => ?_) ?_ (hI_eq _ _ _ _) (fun h2 F4 S4 => ⟨rfl, hQ h2 (((F.tr F2).tr F3).tr (F4.weak (fun a k z => by unfold NxF at z; unfold OpF; omega))) S4 ?_⟩)
          · rw [hI_ne _ _ (Or.inl (by omega)), hI_ne _ _ (Or.inl (by omega)), hI_ne _ _ (Or.inl (by omega))]
            exact A12 i hi
          · rw [hI_ne _ _ (Or.inr (by omega))]
            exact e9'
          · rw [F4.i (by unfold NxF; omega), hI_ne _ _ (Or.inr (by omega)), ← g12, hI_ne _ _ (Or.inr (by omega)), hI_eq]
      · rw [E1.1] at z
        exact absurd ((nI_le_iff (by omega) (by omega)).mpr (Nat.le_refl _)) z
    | succ c ih =>
      intro at' j to h1 hc F e9 hj lt ge A ht
      obtain ⟨t, rfl, et, tn⟩ := ht
      have K1 := K.fi F
      have E1 := E.fi F opf
      have lt' : ∀ i, i < j → ptk B n i < at' + 1 := fun i hi => by have := lt i hi; omega
      have on : at' + 1 ≤ ptk B n j → Ex G d mX8_open 9 [(0, .ref T), (1, .int (nI t)), (2, .int (nI at' + 1))] [] h1 Q := fun z => by
        rw [nI_S]
        exact ih (at' + 1) j _ h1 (by omega) F e9 (by omega) lt' z A ⟨t, rfl, et, tn⟩
      have tg := skp_ge B n t
      refine t_X8_open_9 (by omega) ⟨K1.1, fun z => ?_, fun _ => ⟨fun z => on ?_, fun z => ⟨T + 1, K1.2.1.1, K1.2.2.1.1, by rw [K1.2.2.1.2]; exact vin_nI (by omega) (by omega), ?_⟩⟩⟩
      · rw [E1.1, nI_le_iff (by omega) (by omega)] at z
        omega
      · rw [nI_lt_iff (by omega) (by omega)] at z
        omega
      · rw [nI_lt_iff (by omega) (by omega)] at z
        rw [cl_nI (by omega), E1.2.2.1 _ (by omega)]
        refine ⟨fun b => on ?_, fun b => ?_⟩
        · refine Classical.byContradiction (fun q => ?_)
          have e : ptk B n j = at' := by omega
          exact (at_ptk B n j).nb (by omega) (by rw [e]; exact b)
        · have e : ptk B n j = at' := by
            rw [et]
            refine rn_at (by omega) (fun i h1 h2 => ?_) (fun y => b ?_)
            · exact rn_all (P := isBl) (B := B) (n := n) h1 (show i < skp B n t by omega)
            · have := y.2
              unfold isBl at this
              exact eq_of_beq this
          refine s_split (by omega) K1 E1 (by omega) (by omega) e9 (fun h2 F2 a1 a2 a3 => ⟨_, rfl, ?_⟩)
          have F2' : FrI (OpF T) h1 h2 := F2.weak (fun a k z => by unfold SpF at z; unfold OpF; omega)
          have e92 : hI h2 T 9 = nI j := (F2.i (by unfold SpF; omega)).trans e9
          rw [e92, nI_S, nI_S]
          have nx := nxT_gt (B := B) (show at' < n by omega)
          have ep : ptk B n (j + 1) = skp B n (nxT B n at') := by
            show nxP B n (ptk B n j) = _
            rw [e]
            rfl
          refine ih (at' + 1) (j + 1) _ _ (by omega) ((F.tr F2').tr (FrI.sI (P := OpF T) h2 _ (Or.inl ⟨rfl, by omega⟩))) (hI_eq _ _ _ _) (by omega) (fun i hi => ?_) ?_ (fun i hi => ?_) ⟨_, rfl, ep, nx.2⟩
          · by_cases c : i = j
            · rw [c, e]
              omega
            · have := lt i (by omega)
              omega
          · rw [ep]
            have := skp_ge B n (nxT B n at')
            omega
          · rw [hI_ne _ _ (Or.inl (by omega)), hI_ne _ _ (Or.inl (by omega)), hI_ne _ _ (Or.inl (by omega))]
            by_cases c : i = j
            · rw [c, e]
              exact ⟨a1, a2, a3⟩
            · rw [F2.i (by unfold SpF; omega), F2.i (a := T + 3) (by unfold SpF; omega), F2.i (a := T + 4) (by unfold SpF; omega)]
              exact A i (by omega)
  refine loop n 0 0 0 _ (by omega) (FrI.sI h _ (Or.inl ⟨rfl, by omega⟩)) (hI_eq _ _ _ _) (Nat.le_refl _) (fun i hi => by omega) (Nat.zero_le _) (fun i hi => by omega) ⟨0, rfl, rfl, Nat.zero_le _⟩
end TW
