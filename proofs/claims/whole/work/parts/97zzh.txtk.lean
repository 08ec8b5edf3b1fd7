/-! ===== a text is read by the reference: a clause, all of it ===== -/
noncomputable def clO (B : Nat → Int32) (n k s p m : Nat) : Nat ⊕ (Nat × Nat × List Tok × Option (List Tok)) :=
  if s = 0 then sbind (suR B n k p m) (fun a => if kdT B n a.1 = 1 ∧ vlT B n a.1 = 17 then sbind (tsR B n k (nxP B n a.1) a.2.1) (fun r => .inr (r.1, r.2.1, a.2.2, some r.2.2)) else .inr (a.1, a.2.1, a.2.2, none))
  else sbind (tsR B n k p m) (fun r => .inr (r.1, r.2.1, [], some r.2.2))
def codeT : List Cla → List Tok
  | [] => []
  | q :: C => q.2.1 ++ q.2.2.getD [] ++ codeT C
def cl15 (C : List Cla) : List Cla := C.filter (fun q => q.1 != 15)
def jnI : Option Nat → Int32
  | none => -1
  | some v => nI v
/-- the row of clause i, its places in the code C -/
def RwS (h : HP) (y t : Nat) (C : List Tok) (i : Nat) (q : Cla) : Prop := hI h (y + 5) (60 * t + 5 * i) = nI (srt q.1) ∧ (∃ A D, C = A ++ q.2.1 ++ D ∧ hI h (y + 5) (60 * t + 5 * i + 1) = nI A.length ∧ hI h (y + 5) (60 * t + 5 * i + 2) = nI (A.length + q.2.1.length)) ∧ (q.2.2 = none → hI h (y + 5) (60 * t + 5 * i + 3) = -1) ∧ ∀ l, q.2.2 = some l → ∃ A D, C = A ++ l ++ D ∧ hI h (y + 5) (60 * t + 5 * i + 3) = nI A.length ∧ hI h (y + 5) (60 * t + 5 * i + 4) = nI (A.length + l.length)
def LdT (G : GG) (h : HP) (y : Nat) (B : Nat → Int32) (n t : Nat) (s : TSt) : Prop := TxR G h y B n t s.1 s.2.1 (codeT s.2.2.1) ∧ hI h y 19 = nI s.2.2.1.length ∧ hI h (y + 6) t = nI (cl15 s.2.2.1).length ∧ (∀ i q, (cl15 s.2.2.1)[i]? = some q → RwS h y t (codeT s.2.2.1) i q) ∧ hI h (y + 7) t = jnI s.2.2.2
def TxF (y t a k : Nat) : Prop := (a = y ∧ 13 ≤ k ∧ k ≤ 21 ∧ k ≠ 16) ∨ (a = y + 3 ∧ 400 * t ≤ k ∧ k < 400 * t + 400) ∨ (a = y + 4 ∧ k = t) ∨ (a = y + 5 ∧ 60 * t ≤ k ∧ k < 60 * t + 60) ∨ (a = y + 6 ∧ k = t) ∨ (a = y + 7 ∧ k = t) ∨ a = y + 10
def RQT (G : GG) (y : Nat) (B : Nat → Int32) (n t : Nat) (R : Nat ⊕ TSt) (h : HP) (Q : Option Value → HP → Prop) : Prop := (∀ e, R = .inl e → ∀ h2, FrI (TxF y t) h h2 → hI h2 y 14 = nI e → Q (some (.int 0)) h2) ∧ ∀ s, R = .inr s → ∀ h2, FrI (TxF y t) h h2 → LdT G h2 y B n t s → Q (some (.int 1)) h2
theorem codeT_app (C : List Cla) (q : Cla) : codeT (C ++ [q]) = codeT C ++ q.2.1 ++ q.2.2.getD [] := by
  induction C with
  | nil =>
    show q.2.1 ++ q.2.2.getD [] ++ [] = [] ++ q.2.1 ++ q.2.2.getD []
    rw [List.append_nil, List.nil_append]
  | cons a C ih =>
    show a.2.1 ++ a.2.2.getD [] ++ codeT (C ++ [q]) = a.2.1 ++ a.2.2.getD [] ++ codeT C ++ q.2.1 ++ q.2.2.getD []
    rw [ih]
    simp only [List.append_assoc]
theorem codeT_len (C : List Cla) : (codeT C).length = clsN C := by
  induction C with
  | nil => rfl
  | cons a C ih =>
    show (a.2.1 ++ a.2.2.getD [] ++ codeT C).length = claL a + clsN C
    rw [List.length_append, List.length_append, ih]
    unfold claL
    cases a.2.2 <;> rfl
theorem cl15_app (C : List Cla) (q : Cla) : cl15 (C ++ [q]) = if q.1 = 15 then cl15 C else cl15 C ++ [q] := by
  unfold cl15
  rw [List.filter_append]
  by_cases c : q.1 = 15
  · rw [if_pos c, List.filter_cons_of_neg (by simp [c])]
    simp
  · rw [if_neg c, List.filter_cons_of_pos (by simp [c])]
    simp
theorem cl15_len (C : List Cla) : (cl15 C).length ≤ C.length := List.length_filter_le _ _
theorem RwS.up {h h2 : HP} {y t i : Nat} {C : List Tok} {q : Cla} (R : RwS h y t C i q) (E : List Tok) (he : ∀ k, 60 * t + 5 * i ≤ k → k < 60 * t + 5 * i + 5 → hI h2 (y + 5) k = hI h (y + 5) k) : RwS h2 y t (C ++ E) i q := by
  obtain ⟨a1, ⟨A, D, a2, a3, a4⟩, a5, a6⟩ := R
  refine ⟨(he _ (by omega) (by omega)).trans a1, ⟨A, D ++ E, by rw [a2]; simp only [List.append_assoc], (he _ (by omega) (by omega)).trans a3, (he _ (by omega) (by omega)).trans a4⟩, fun e => (he _ (by omega) (by omega)).trans (a5 e), fun l hl => ?_⟩
  obtain ⟨A', D', b2, b3, b4⟩ := a6 l hl
  exact ⟨A', D' ++ E, by rw [b2]; simp only [List.append_assoc], (he _ (by omega) (by omega)).trans b3, (he _ (by omega) (by omega)).trans b4⟩
theorem ClR.row {h : HP} {y t N s c : Nat} {C sm : List Tok} {ts : Option (List Tok)} (R : ClR h y (60 * t + 5 * N) s C sm ts) (hs : srt c = s) : RwS h y t (C ++ sm ++ ts.getD []) N (c, sm, ts) := by
  obtain ⟨a1, a2, a3, a4, a5⟩ := R
  refine ⟨by show hI h (y + 5) (60 * t + 5 * N) = nI (srt c); rw [hs]; exact a1, ⟨C, ts.getD [], rfl, a2, by rw [a3, List.length_append]⟩, a4, fun l hl => ?_⟩
  obtain ⟨b1, b2⟩ := a5 l hl
  have hl' : ts = some l := hl
  refine ⟨C ++ sm, [], ?_, b1, by rw [b2, List.length_append (as := C ++ sm)]⟩
  rw [List.append_nil, hl', Option.getD_some]
theorem SegR.sub {h : HP} {A p : Nat} {X l D : List Tok} (S : SegR h A p (X ++ l ++ D)) : SegR h A (p + X.length) l := by
  intro j q hq
  have hj : j < l.length := (List.getElem?_eq_some_iff.mp hq).1
  have := S (X.length + j) q (by rw [List.append_assoc, List.getElem?_append_right (by omega), Nat.add_sub_cancel_left, List.getElem?_append_left hj]; exact hq)
  rw [← Nat.add_assoc] at this
  exact this
section TL
variable {G : GG} {d : Nat} {y : Nat} {B : Nat → Int32} {n t : Nat} {Q : Option Value → HP → Prop}
theorem LdT.scr {h : HP} {wish : Bool} {s : TSt} (S : TsP B n wish s) (L : LdT G h y B n t s) : ScrR h y t (cl15 s.2.2.1) := by
  obtain ⟨l1, -, l3, l4, -⟩ := L
  have n400 := l1.1.2.1.2.1
  have sn : s.1 ≤ n := S.1.1
  have c4 := S.2.2.2.1
  have cl := codeT_len s.2.2.1
  have sg := l1.2.2.2.1
  refine ⟨l3, fun i q hq => ?_⟩
  obtain ⟨a1, ⟨A, D, a2, a3, a4⟩, a5, a6⟩ := l4 i q hq
  refine ⟨a1, ⟨A.length, ?_, a3, a4, ?_⟩, a5, fun l hl => ?_⟩
  · have := congrArg List.length a2
    rw [List.length_append, List.length_append] at this
    omega
  · rw [a2] at sg
    exact sg.sub
  · obtain ⟨A', D', b2, b3, b4⟩ := a6 l hl
    refine ⟨A'.length, ?_, b3, b4, ?_⟩
    · have := congrArg List.length b2
      rw [List.length_append, List.length_append] at this
      omega
    · rw [b2] at sg
      exact sg.sub
theorem cl_cr {k c : Nat} {wish : Bool} {s : TSt} (h : kwT B n wish s.1) (h2 : ¬ tmT B n s) (v : vlT B n s.1 = nI c) (hc : c = 12 ∨ c = 13 ∨ c = 14 ∨ c = 16) : claR B n k wish s = sbind (clO B n k (srt c) (nxP B n s.1) s.2.1) (fun x => .inr (x.1, x.2.1, s.2.2.1 ++ [(c, x.2.2.1, x.2.2.2)], s.2.2.2)) := by
  have ec : (vlT B n s.1).toInt.toNat = c := by rw [v, ti_nI (by omega)]; rfl
  have z : (c = 12 ∨ c = 16) → (vlT B n s.1 = 12 ∨ vlT B n s.1 = 16) → claR B n k wish s = sbind (clO B n k (srt c) (nxP B n s.1) s.2.1) (fun x => .inr (x.1, x.2.1, s.2.2.1 ++ [(c, x.2.2.1, x.2.2.2)], s.2.2.2)) := fun hc v => by
    have e0 : srt c = 0 := by rcases hc with rfl | rfl <;> rfl
    rw [cr_s h h2 v, ec, e0]
    unfold clO
    rw [if_pos rfl]
    cases suR B n k (nxP B n s.1) s.2.1 with
    | inl e => rfl
    | inr a =>
      show (if kdT B n a.1 = 1 ∧ vlT B n a.1 = 17 then _ else _) = sbind (if kdT B n a.1 = 1 ∧ vlT B n a.1 = 17 then _ else _) _
      by_cases c17 : kdT B n a.1 = 1 ∧ vlT B n a.1 = 17
      · rw [if_pos c17, if_pos c17]
        cases tsR B n k (nxP B n a.1) a.2.1 <;> rfl
      · rw [if_neg c17, if_neg c17]
        rfl
  have z2 : (vlT B n s.1 = 13 ∨ vlT B n s.1 = 14) → ¬ srt c = 0 → claR B n k wish s = sbind (clO B n k (srt c) (nxP B n s.1) s.2.1) (fun x => .inr (x.1, x.2.1, s.2.2.1 ++ [(c, x.2.2.1, x.2.2.2)], s.2.2.2)) := fun v e0 => by
    rw [cr_t h h2 v, ec]
    unfold clO
    rw [if_neg e0]
    cases tsR B n k (nxP B n s.1) s.2.1 <;> rfl
  rcases hc with rfl | rfl | rfl | rfl
  · exact z (Or.inl rfl) (Or.inl v)
  · exact z2 (Or.inl v) (by decide)
  · exact z2 (Or.inr v) (by decide)
  · exact z (Or.inr rfl) (Or.inr v)
theorem r_clauseOf {h : HP} {k p m N s : Nat} {C : List Tok} {x1 : Int32} (hd : 15 ≤ d) (hx : x1 = nI s) (E : RdE G h y B n p) (k1 : kdT B n p = 1) (hf : n < k) (hm : m ≤ 60) (hb : C.length ≤ p) (hs : s < 3) (T : TxR G h y B n t p m C) (e6 : hI h (y + 6) t = nI N) (hN : N < 12)
    (h0 : ∀ e, clO B n k s (nxP B n p) m = .inl e → ∀ h2, FrI (ClF y t N) h h2 → hI h2 y 14 = nI e → Q (some (.int 0)) h2)
    (h1 : ∀ x, clO B n k s (nxP B n p) m = .inr x → ∀ h2, FrI (ClF y t N) h h2 → TxR G h2 y B n t x.1 x.2.1 (C ++ x.2.2.1 ++ x.2.2.2.getD []) → hI h2 (y + 6) t = nI (N + 1) → ClR h2 y (60 * t + 5 * N) s C x.2.2.1 x.2.2.2 → Q (some (.int 1)) h2) : Cal G d mX12_clauseOf [.ref y, .int x1] h Q := by
  subst hx
  have t12 := T.2.2.2.2
  have pn := E.2.2.2.1
  have n400 := E.2.1.2.1
  have lt := kd_lt k1 (by omega)
  have gt := nxP_gt (B := B) lt
  have pn2 := (at_nx (B := B) pn).1
  refine e_X12_clauseOf (by omega) ⟨T.1.1.1, r_passWord (by omega) E k1 (fun h2 F2 X2 _ => ⟨rfl, ?_⟩)⟩
  have T2 := T.f13 F2 X2
  obtain ⟨⟨c1, c2, c3⟩, ⟨d1, d2, d3⟩, -⟩ := T2.1.1.cla
  have e62 : hI h2 (y + 6) t = nI N := (F2.i (by unfold F13; omega)).trans e6
  have ea : (60 : Int32) * nI t + 5 * nI N = nI (60 * t + 5 * N) := by
    show nI 60 * nI t + nI 5 * nI N = _
    rw [nM, nM, nA]
  have p1 : (nI (60 * t + 5 * N) : Int32) + 1 = nI (60 * t + 5 * N + 1) := nI_S _
  refine ⟨y + 6, d1, d2, ?_⟩
  rw [T2.2.1.2.1, cl_nI (n := t) (by omega), e62, ea, p1, d3]
  refine ⟨vin_nI (by omega) (by omega), y + 5, c1, c2, by rw [c3]; exact vin_nI (by omega) (by omega), fun h13 g13 => ?_⟩
  rw [cl_nI (by omega)] at g13
  have F3 : FrI (fun a k => a = y + 5 ∧ k = 60 * t + 5 * N) h2 h13 := by
    rw [g13]
    exact FrI.sI h2 _ ⟨rfl, rfl⟩
  have T3 := T2.off F3 (fun a k z => by omega)
  obtain ⟨⟨c1', c2', c3'⟩, -⟩ := T3.1.1.cla
  obtain ⟨-, l1, l2, l3⟩ := T3.1.1.tx
  refine ⟨y + 4, l1, l2, ?_⟩
  rw [T3.2.1.2.1, cl_nI (n := t) (by omega), T3.2.2.1, l3, c3', cl_nI (n := 60 * t + 5 * N + 1) (by omega)]
  refine ⟨vin_nI (by omega) (by omega), vin_nI (by omega) (by omega), fun h21 g21 => ?_⟩
  have F4 : FrI (fun a k => a = y + 5 ∧ k = 60 * t + 5 * N + 1) h13 h21 := by
    rw [g21]
    exact FrI.sI h13 _ ⟨rfl, rfl⟩
  have T4 := T3.off F4 (fun a k z => by omega)
  have r0 : hI h21 (y + 5) (60 * t + 5 * N) = nI s := by
    rw [F4.i (by omega), g13, hI_eq]
  have r1 : hI h21 (y + 5) (60 * t + 5 * N + 1) = nI C.length := by rw [g21, hI_eq]
  have q6 : hI h21 (y + 6) t = nI N := (F4.i (by omega)).trans ((F3.i (by omega)).trans e62)
  have FC : FrI (ClF y t N) h h21 := ((F2.weak (fun a k z => ts_cf (f13_ts z))).tr (F3.weak (fun a k z => Or.inr (Or.inl ⟨z.1, by omega, by omega⟩)))).tr (F4.weak (fun a k z => Or.inr (Or.inl ⟨z.1, by omega, by omega⟩)))
  refine ⟨fun z => ?_, fun z => ?_⟩
  · have s0 : ¬ s = 0 := fun q => z (by rw [q]; rfl)
    have co : clO B n k s (nxP B n p) m = sbind (tsR B n k (nxP B n p) m) (fun r => .inr (r.1, r.2.1, [], some r.2.2)) := if_neg s0
    have T4' : TxR G h21 y B n t (nxP B n p) m (C ++ []) := by
      rw [List.append_nil]
      exact T4
    refine r_cl61 (k := k) (by omega) (by omega) hm (by rw [List.append_nil]; omega) hs T4' q6 hN ⟨r0, r1⟩ (fun q => absurd q s0) (fun p' cs => ?_)
    rcases cs with ⟨rfl, -⟩ | ⟨q, -⟩
    · refine ⟨fun x hx h5 F5 f5 => h0 x (by rw [co, hx]; rfl) h5 (FC.tr F5) f5, fun r hr h5 F5 T5 z5 c5 => h1 (r.1, r.2.1, [], some r.2.2) (by rw [co, hr]; rfl) h5 (FC.tr F5) T5 z5 c5⟩
    · exact absurd q s0
  · have s0 : s = 0 := (nI_eq_iff (b := 0) (by omega) (by omega)).mp z
    subst s0
    have co : clO B n k 0 (nxP B n p) m = sbind (suR B n k (nxP B n p) m) (fun a => if kdT B n a.1 = 1 ∧ vlT B n a.1 = 17 then sbind (tsR B n k (nxP B n a.1) a.2.1) (fun r => .inr (r.1, r.2.1, a.2.2, some r.2.2)) else .inr (a.1, a.2.1, a.2.2, none)) := if_pos rfl
    refine r_sum (k := k) (by omega) (by omega) hm (by omega) T4 ⟨fun e he h5 F5 f5 => ⟨_, rfl, fun z => absurd rfl z, fun _ => h0 e (by rw [co, he]; rfl) h5 (FC.tr (F5.weak (fun a k z => ts_cf (sm_ts z)))) f5⟩, fun a ha h5 F5 T5 => ⟨_, rfl, fun _ => ?_, fun z => absurd z (by decide)⟩⟩
    obtain ⟨aa, am, -⟩ := (suR_ok (B := B) (n := n) pn2 (by omega) hm).2 a ha
    have FC5 := FC.tr (F5.weak (fun a k z => ts_cf (N := N) (sm_ts z)))
    have ro : ∀ k, hI h5 (y + 5) k = hI h21 (y + 5) k := fun k => F5.i (by unfold SmF; omega)
    refine r_cl61 (k := k) (s := 0) (by omega) (by omega) am.2 (by rw [List.length_append]; omega) (by omega) T5 ((F5.i (by unfold SmF; omega)).trans q6) hN ⟨(ro _).trans r0, (ro _).trans r1⟩ (fun _ no h6 F6 T6 z6 c6 => h1 (a.1, a.2.1, a.2.2, none) (by rw [co, ha]; exact if_neg no) h6 (FC5.tr F6) (by show TxR G h6 y B n t a.1 a.2.1 (C ++ a.2.2 ++ []); rw [List.append_nil]; exact T6) z6 c6) (fun p' cs => ?_)
    rcases cs with ⟨-, q⟩ | ⟨-, c17, rfl⟩
    · exact absurd q (by omega)
    · refine ⟨fun x hx h6 F6 f6 => h0 x (by rw [co, ha]; exact (if_pos c17).trans (by rw [hx]; rfl)) h6 (FC5.tr F6) f6, fun r hr h6 F6 T6 z6 c6 => h1 (r.1, r.2.1, a.2.2, some r.2.2) (by rw [co, ha]; exact (if_pos c17).trans (by rw [hr]; rfl)) h6 (FC5.tr F6) T6 z6 c6⟩
theorem r_joins {h : HP} {p m : Nat} {C : List Tok} {j : Option Nat} (hd : 2 ≤ d) (E : RdE G h y B n p) (k1 : kdT B n p = 1) (T : TxR G h y B n t p m C) (ej : hI h (y + 7) t = jnI j) (hj : ∀ v, j = some v → v ≤ 1)
    (h0 : ∀ e, ((j ≠ none ∧ e = 1 + 8 * p + 4) ∨ (j = none ∧ numR B n (nxP B n p) 0 1 = .inl e)) → ∀ h2, FrI (fun a k => F135 y a k ∨ (a = y + 7 ∧ k = t)) h h2 → hI h2 y 14 = nI e → Q (some (.int 0)) h2)
    (h1 : j = none → ∀ a, numR B n (nxP B n p) 0 1 = .inr a → ∀ h2, FrI (fun a k => F135 y a k ∨ (a = y + 7 ∧ k = t)) h h2 → TxR G h2 y B n t a.2 m C → hI h2 (y + 7) t = nI a.1 → Q (some (.int 1)) h2) : Cal G d mX12_joins [.ref y, .int (nI p)] h Q := by
  have t12 := T.2.2.2.2
  obtain ⟨-, -, d1, d2, d3⟩ := T.1.1.cla
  refine e_X12_joins (by omega) ⟨T.1.1.1, y + 7, d1, d2, ?_⟩
  rw [T.2.1.2.1, cl_nI (by omega), ej, d3]
  refine ⟨vin_nI (by omega) (by omega), fun z => ?_, fun z => ?_⟩
  · have jn : j = none := by
      cases j with
      | none => rfl
      | some v =>
        have := hj v rfl
        exact absurd ((nI_lt_iff (a := v) (b := 0) (by omega) (by omega)).mp z) (by omega)
    refine r_passWord (by omega) E k1 (fun h2 F2 X2 _ => ⟨rfl, r_numberHere (l := 0) (u := 1) (by omega) X2 ((F2.i (by unfold F13; omega)).trans T.2.1.1) (by omega) (by omega) (fun nk h3 F3 f3 _ => ⟨_, rfl, fun z => absurd rfl z, fun _ => h0 _ (Or.inr ⟨jn, numR_bad nk⟩) h3 ((F2.weak (fun a k z => ?_)).tr (F3.weak (fun a k z => Or.inl z))) f3⟩) (fun ok h3 F3 X3 v3 w3 => ⟨_, rfl, fun _ => ?_, fun z => absurd z (by decide)⟩)⟩)
    · show F135 y a k ∨ (a = y + 7 ∧ k = t)
      unfold F13 at z
      unfold F135
      omega
    · have T3 : TxR G h3 y B n t (nxP B n (nxP B n p)) m C := (T.f13 F2 X2).fr F3 (fun a k z => by unfold F135 at z; omega) X3 w3
      obtain ⟨-, -, d1', d2', d3'⟩ := T3.1.1.cla
      refine ⟨y + 7, d1', d2', by rw [T3.2.1.2.1, d3']; exact vin_nI (by omega) (by omega), ?_⟩
      rw [T3.2.1.2.1, cl_nI (by omega), v3, (numR_ok ok).2.1]
      refine h1 jn _ (numR_ok ok).1 _ (((F2.weak (fun a k z => ?_)).tr (F3.weak (fun a k z => Or.inl z))).tr (FrI.sI (P := fun a k => F135 y a k ∨ (a = y + 7 ∧ k = t)) h3 _ (Or.inr ⟨rfl, rfl⟩))) (T3.off (FrI.sI (P := fun a k => a = y + 7 ∧ k = t) h3 _ ⟨rfl, rfl⟩) (fun a k z => by omega)) (hI_eq _ _ _ _)
      show F135 y a k ∨ (a = y + 7 ∧ k = t)
      unfold F13 at z
      unfold F135
      omega
  · refine r_fails T.1.1 T.2.1.1 (k := 4) rfl ⟨_, rfl, Or.inl rfl, h0 _ (Or.inl ⟨fun q => z (by rw [q]; decide), rfl⟩) _ (FrI.sI (P := fun a k => F135 y a k ∨ (a = y + 7 ∧ k = t)) h _ (Or.inl ?_)) (hI_eq _ _ _ _)⟩
    unfold F135
    omega
end TL
