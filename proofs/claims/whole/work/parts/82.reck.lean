/-! ===== the reference reckons ===== -/
theorem nSh {k : Nat} (hk : k < 2147483648) : nI k >>> (4 &&& 31) = nI (k / 16) := by
  refine nI_bv (by omega) ?_
  have e : ((nI k) >>> ((4 : Int32) &&& 31)).toBitVec = (nI k).toBitVec.sshiftRight 4 := rfl
  rw [e, BitVec.toNat_sshiftRight_of_msb_false, tbn hk, Nat.shiftRight_eq_div_pow]
  rw [BitVec.msb_eq_false_iff_two_mul_lt, tbn hk]
  omega
theorem nA15 {k : Nat} (hk : k < 2147483648) : nI k &&& 15 = nI (k % 16) := by
  show nI k &&& nI 15 = _
  rw [nAnd hk (by omega)]
  congr 1
  exact Nat.and_two_pow_sub_one_eq_mod k 4
theorem encR_n {s : Nat} {v : Nat} : encR (s, nI v) = nI (s + 16 * v) := by
  unfold encR
  show nI s + nI 16 * nI v = _
  rw [nM, nA]
section RR
variable {G : GG} {d : Nat} {Q : Option Value → HP → Prop} {y t e : Nat} {w : Nat → Int64} {x2 : Int32}
def RkI (y a k : Nat) : Prop := a = y ∧ k = 27
def RkL (y a : Nat) (_ : Nat) : Prop := a = y + 11
/-- what reckoning needs -/
def RunR (G : GG) (h : HP) (y : Nat) (w : Nat → Int64) : Prop := MdSh G h y ∧ ∀ i, i < 12 → hL h (y + 12) i = w i
theorem MdSh.fs {PI PL : Nat → Nat → Prop} {h h2 : HP} (f : FrS PI PL h h2) (M : MdSh G h y) : MdSh G h2 y := ⟨f.kd M.1, fun q hq => ⟨(f.r _ _).trans (M.2 q hq).1, f.kd (M.2 q hq).2.1, (f.n (M.2 q hq).2.1).trans (M.2 q hq).2.2⟩⟩
theorem RunR.fr {h h2 : HP} (F : FrS (RkI y) (RkL y) h h2) (R : RunR G h y w) : RunR G h2 y w := ⟨R.1.fs F, fun i hi => (F.l (by unfold RkL; omega)).trans (R.2 i hi)⟩
theorem r_push {h : HP} {n : Nat} {v : Int64} (M : MdSh G h y) (hn : hI h y 27 = nI n) (hl : n < 64) (hQ : Q none (sI (sL h (y + 11) n v) y 27 (nI (n + 1)))) : Cal G d mX12_push [.ref y, .long v] h Q := by
  obtain ⟨p1, p2, p3⟩ : hR h y 26 = some (y + 11) ∧ Kd G h (y + 11) 15 ∧ hN h (y + 11) = 64 := M.2 (26, 11, 15, 64) (by decide)
  refine e_X12_push ⟨M.1, y + 11, p1, p2, by rw [hn, p3]; exact vin_nI hl (by omega), fun h6 g => ?_⟩
  rw [g, hI_sL, hn, cl_nI (by omega), nI_S]
  exact hQ
theorem r_pop {h : HP} {n : Nat} (M : MdSh G h y) (hn : hI h y 27 = nI (n + 1)) (hl : n < 64) (hQ : Q (some (.long (hL h (y + 11) n))) (sI h y 27 (nI n))) : Cal G d mX12_pop [.ref y] h Q := by
  obtain ⟨p1, p2, p3⟩ : hR h y 26 = some (y + 11) ∧ Kd G h (y + 11) 15 ∧ hN h (y + 11) = 64 := M.2 (26, 11, 15, 64) (by decide)
  have e1 : nI (n + 1) - 1 = nI n := by
    show nI (n + 1) - nI 1 = _
    rw [nS (by omega), Nat.add_sub_cancel]
  refine e_X12_pop ⟨M.1, y + 11, p1, p2.up (kp_sI ..), ?_, ?_⟩
  · rw [hn, e1, hI_eq]
    show vp_in _ (hN h (y + 11))
    rw [p3]; exact vin_nI hl (by omega)
  · rw [hn, e1, hI_eq, cl_nI (by omega)]
    exact hQ
def KR (G : GG) (d : Nat) (Q : Option Value → HP → Prop) (y t e : Nat) (x2 : Int32) (i : Nat) (st : List Int64) (h : HP) : Prop := hI h y 27 = nI st.length → Ex G d mX12_reckons 8 [(0, .ref y), (1, .int (nI t)), (2, .int x2), (3, .int (nI e)), (4, .int (nI i))] [] h Q
theorem k_step {h : HP} {i s v : Nat} (hd : 1 ≤ d) (ht : t < 12) (hi : i < e) (he : e ≤ 400) (M : MdSh G h y) (hs : s < 16) (hv : v ≤ 99999) (hc : hI h (y + 3) (400 * t + i) = encR (s, nI v))
    (k0 : s = 0 → Cal G (d - 1) mX12_push [.ref y, .long ((nI v).toInt64)] h (fun r45 h46 => r45 = none ∧ Ex G d mX12_reckons 8 [(0, .ref y), (1, .int (nI t)), (2, .int x2), (3, .int (nI e)), (4, .int (nI (i + 1)))] [] h46 Q))
    (k1 : s = 1 → v < 12 ∧ Cal G (d - 1) mX12_push [.ref y, .long (hL h (y + 12) v)] h (fun r45 h46 => r45 = none ∧ Ex G d mX12_reckons 8 [(0, .ref y), (1, .int (nI t)), (2, .int x2), (3, .int (nI e)), (4, .int (nI (i + 1)))] [] h46 Q))
    (k2 : s = 11 → Cal G (d - 1) mX12_pop [.ref y] h (fun r31 h32 => ∃ v34, r31 = some (.long v34) ∧ Cal G (d - 1) mX12_push [.ref y, .long (1 - v34)] h32 (fun r35 h36 => r35 = none ∧ Ex G d mX12_reckons 8 [(0, .ref y), (1, .int (nI t)), (2, .int x2), (3, .int (nI e)), (4, .int (nI (i + 1)))] [] h36 Q)))
    (k3 : s ≠ 0 → s ≠ 1 → s ≠ 11 → Cal G (d - 1) mX12_pop [.ref y] h (fun r16 h17 => ∃ v19, r16 = some (.long v19) ∧ Cal G (d - 1) mX12_pop [.ref y] h17 (fun r20 h21 => ∃ v23, r20 = some (.long v23) ∧ Cal G (d - 1) mX12_one [.int (nI s), .long v23, .long v19] h21 (fun r24 h25 => ∃ v27, r24 = some (.long v27) ∧ Cal G (d - 1) mX12_push [.ref y, .long v27] h25 (fun r28 h29 => r28 = none ∧ Ex G d mX12_reckons 8 [(0, .ref y), (1, .int (nI t)), (2, .int x2), (3, .int (nI e)), (4, .int (nI (i + 1)))] [] h29 Q))))) : Ex G d mX12_reckons 8 [(0, .ref y), (1, .int (nI t)), (2, .int x2), (3, .int (nI e)), (4, .int (nI i))] [] h Q := by
  obtain ⟨p1, p2, p3⟩ : hR h y 3 = some (y + 3) ∧ Kd G h (y + 3) 14 ∧ hN h (y + 3) = 4800 := M.2 (3, 3, 14, 4800) (by decide)
  obtain ⟨w1, w2, w3⟩ : hR h y 28 = some (y + 12) ∧ Kd G h (y + 12) 15 ∧ hN h (y + 12) = 12 := M.2 (28, 12, 15, 12) (by decide)
  have e1 : 400 * nI t + nI i = nI (400 * t + i) := by
    show nI 400 * nI t + nI i = _
    rw [nM, nA]
  have vv : vp_in (400 * nI t + nI i) (hN h (y + 3)) := by rw [e1, p3]; exact vin_nI (by omega) (by omega)
  have m15 : nI (s + 16 * v) &&& 15 = nI s := by
    rw [nA15 (by omega)]
    congr 1
    omega
  have s4 : nI (s + 16 * v) >>> (4 &&& 31) = nI v := by
    rw [nSh (by omega)]
    congr 1
    omega
  refine t_X12_reckons_8 hd ⟨fun q => ?_, fun _ => ⟨M.1, y + 3, p1, p2, vv, vv, ?_⟩⟩
  · have := (nI_le_iff (a := e) (b := i) (by omega) (by omega)).mp q
    omega
  rw [e1, cl_nI (by omega), hc, encR_n, m15, s4, nI_S]
  have q0 : nI s = 0 ↔ s = 0 := nI_eq_iff (b := 0) (by omega) (by omega)
  have q1 : nI s = 1 ↔ s = 1 := nI_eq_iff (b := 1) (by omega) (by omega)
  have q11 : nI s = 11 ↔ s = 11 := nI_eq_iff (b := 11) (by omega) (by omega)
  refine ⟨fun n0 => ⟨fun n1 => ⟨fun n11 => k3 (fun z => n0 (q0.mpr z)) (fun z => n1 (q1.mpr z)) (fun z => n11 (q11.mpr z)), fun n11 => k2 (q11.mp n11)⟩, fun n1 => ?_⟩, fun n0 => k0 (q0.mp n0)⟩
  obtain ⟨hv12, k⟩ := k1 (q1.mp n1)
  exact ⟨y + 12, w1, w2, by rw [w3]; exact vin_nI hv12 (by omega), by rw [cl_nI (by omega)]; exact k⟩
theorem k_push {h : HP} {i : Nat} {st : List Int64} {v : Int64} (M : MdSh G h y) (ht : hI h y 27 = nI st.length) (hl : st.length < 64) (S : StkAt h (y + 11) st) (k : ∀ h2, FrS (RkI y) (RkL y) h h2 → StkAt h2 (y + 11) (v :: st) → KR G d Q y t e x2 (i + 1) (v :: st) h2) : Cal G (d - 1) mX12_push [.ref y, .long v] h (fun r45 h46 => r45 = none ∧ Ex G d mX12_reckons 8 [(0, .ref y), (1, .int (nI t)), (2, .int x2), (3, .int (nI e)), (4, .int (nI (i + 1)))] [] h46 Q) := by
  refine r_push M ht hl ⟨rfl, ?_⟩
  refine k _ ((frS_sL (PI := RkI y) (PL := RkL y) _ _ rfl).tr (frS_sI _ _ ⟨rfl, rfl⟩)) ?_ (hI_eq _ _ _ _)
  exact StkAt.fr (h := sL h (y + 11) st.length v) (fun _ _ => rfl) (stk_push v S)
theorem k_op {h : HP} {i s : Nat} {st : List Int64} {va vb : Int64} (hd : 1 ≤ d) (htt : t < 12) (hi : i < e) (he : e ≤ 400) (M : MdSh G h y) (hs : (2 ≤ s ∧ s ≤ 10) ∨ s = 12 ∨ s = 13) (hc : hI h (y + 3) (400 * t + i) = encR (s, 0)) (hl : st.length ≤ 60) (S : StkAt h (y + 11) (vb :: va :: st)) (k : ∀ h2, FrS (RkI y) (RkL y) h h2 → StkAt h2 (y + 11) (apV s va vb :: st) → KR G d Q y t e x2 (i + 1) (apV s va vb :: st) h2) : KR G d Q y t e x2 i (vb :: va :: st) h := by
  intro ht
  obtain ⟨s1, s2, s3⟩ := S
  refine k_step (v := 0) hd htt hi he M (by omega) (by omega) hc (fun q => by omega) (fun q => by omega) (fun q => by omega) (fun _ _ _ => ?_)
  refine r_pop (n := (va :: st).length) M ht (by simp; omega) ⟨_, rfl, ?_⟩
  rw [s1]
  generalize g1 : sI h y 27 (nI (va :: st).length) = h1
  have F1 : FrS (RkI y) (RkL y) h h1 := by rw [← g1]; exact frS_sI _ _ ⟨rfl, rfl⟩
  have l1 : hI h1 y 27 = nI (st.length + 1) := by rw [← g1, hI_eq]; rfl
  refine r_pop (n := st.length) (M.fs F1) l1 (by omega) ⟨_, rfl, ?_⟩
  have s2' : hL h1 (y + 11) st.length = va := by rw [← g1]; exact s2
  rw [s2']
  generalize g2 : sI h1 y 27 (nI st.length) = h2
  have F2 : FrS (RkI y) (RkL y) h1 h2 := by rw [← g2]; exact frS_sI _ _ ⟨rfl, rfl⟩
  have l2 : hI h2 y 27 = nI st.length := by rw [← g2, hI_eq]
  have s3' : StkAt h2 (y + 11) st := by
    refine s3.fr (fun i _ => ?_)
    rw [← g2, ← g1]
    rfl
  refine r_one hs ⟨_, rfl, ?_⟩
  exact k_push ((M.fs F1).fs F2) l2 (by omega) s3' (fun h3 F3 K3 => k h3 (F1.tr (F2.tr F3)) K3)
theorem k_not {h : HP} {i : Nat} {st : List Int64} {va : Int64} (hd : 1 ≤ d) (htt : t < 12) (hi : i < e) (he : e ≤ 400) (M : MdSh G h y) (hc : hI h (y + 3) (400 * t + i) = encR (11, 0)) (hl : st.length ≤ 60) (S : StkAt h (y + 11) (va :: st)) (k : ∀ h2, FrS (RkI y) (RkL y) h h2 → StkAt h2 (y + 11) ((1 - va) :: st) → KR G d Q y t e x2 (i + 1) ((1 - va) :: st) h2) : KR G d Q y t e x2 i (va :: st) h := by
  intro ht
  obtain ⟨s1, s2⟩ := S
  refine k_step (s := 11) (v := 0) hd htt hi he M (by omega) (by omega) hc (fun q => by omega) (fun q => by omega) (fun _ => ?_) (fun _ _ q => absurd rfl q)
  refine r_pop (n := st.length) M ht (by omega) ⟨_, rfl, ?_⟩
  rw [s1]
  generalize g1 : sI h y 27 (nI st.length) = h1
  have F1 : FrS (RkI y) (RkL y) h h1 := by rw [← g1]; exact frS_sI _ _ ⟨rfl, rfl⟩
  have l1 : hI h1 y 27 = nI st.length := by rw [← g1, hI_eq]
  exact k_push (M.fs F1) l1 (by omega) (s2.fr (fun i _ => by rw [← g1]; rfl)) (fun h3 F3 K3 => k h3 (F1.tr F3) K3)
theorem k_evS (hd : 1 ≤ d) (htt : t < 12) (he : e ≤ 400) : ∀ (n : Nat) (l : List Tok) (v : Int64) (p : Nat) (st : List Int64) (h : HP), EvS w n l v → SegA encR h (y + 3) (400 * t + p) l → p + l.length ≤ e → st.length + pushN l ≤ 60 → RunR G h y w → StkAt h (y + 11) st → (∀ h2, FrS (RkI y) (RkL y) h h2 → StkAt h2 (y + 11) (v :: st) → KR G d Q y t e x2 (p + l.length) (v :: st) h2) → KR G d Q y t e x2 p st h := by
  intro n
  induction n with
  | zero => intro l v p st h e; exact e.elim
  | succ n ih =>
    intro l v p st h ev S hp hs R K k
    rcases ev with ⟨c, hc, rfl, rfl⟩ | ⟨i, hi, rfl, rfl⟩ | ⟨la, lb, s, va, vb, ea, eb, h25, rfl, rfl⟩
    · intro ht
      unfold rng at hc
      obtain ⟨m, hm, rfl⟩ := of_in (n := 100000) hc.1 (by omega)
      exact k_step (s := 0) (v := m) hd htt (by simp at hp; omega) he R.1 (by omega) (by omega) S.one (fun _ => k_push R.1 ht (by omega) K k) (fun q => by omega) (fun q => by omega) (fun q => absurd rfl q)
    · intro ht
      exact k_step (s := 1) (v := i) hd htt (by simp at hp; omega) he R.1 (by omega) (by omega) S.one (fun q => by omega) (fun _ => ⟨hi, by rw [R.2 i hi]; exact k_push R.1 ht (by omega) K k⟩) (fun q => by omega) (fun _ q => absurd rfl q)
    · have Sa := S.left.left
      have Sb := S.left.right
      have So := S.right.one
      simp only [List.length_append, List.length_cons, List.length_nil] at hp So k
      rw [pushN_app, pushN_app, pushN_op h25.1] at hs
      refine ih la va p st h ea Sa (by omega) (by omega) R K (fun h1 F1 K1 => ?_)
      have E1 : ∀ x, hI h1 (y + 3) x = hI h (y + 3) x := fun x => F1.i (by unfold RkI; omega)
      have pa := evS_push n la va ea
      rw [show 400 * t + p + la.length = 400 * t + (p + la.length) by omega] at Sb
      refine ih lb vb (p + la.length) (va :: st) h1 eb (Sb.fr E1) (by omega) (by simp; omega) (R.fr F1) K1 (fun h2 F2 K2 => ?_)
      have E2 : ∀ x, hI h2 (y + 3) x = hI h (y + 3) x := fun x => (F2.i (by unfold RkI; omega)).trans (E1 x)
      refine k_op (s := s) hd htt (by omega) he ((R.fr F1).fr F2).1 (Or.inl ⟨h25.1, by omega⟩) ?_ (by omega) K2 (fun h3 F3 K3 => ?_)
      · rw [E2, show 400 * t + (p + la.length + lb.length) = 400 * t + p + (la.length + lb.length) by omega]
        exact So
      · have := k h3 (F1.tr (F2.tr F3)) K3
        rw [show p + la.length + lb.length + 1 = p + (la.length + lb.length + (0 + 1)) by omega]
        exact this
theorem k_evT (hd : 1 ≤ d) (htt : t < 12) (he : e ≤ 400) : ∀ (n : Nat) (l : List Tok) (v : Int64) (p : Nat) (st : List Int64) (h : HP), EvT w n l v → SegA encR h (y + 3) (400 * t + p) l → p + l.length ≤ e → st.length + pushN l ≤ 60 → RunR G h y w → StkAt h (y + 11) st → (∀ h2, FrS (RkI y) (RkL y) h h2 → StkAt h2 (y + 11) (v :: st) → KR G d Q y t e x2 (p + l.length) (v :: st) h2) → KR G d Q y t e x2 p st h := by
  intro n
  induction n with
  | zero => intro l v p st h e; exact e.elim
  | succ n ih =>
    intro l v p st h ev S hp hs R K k
    have bin : ∀ {la lb : List Tok} {s : Nat} {va vb : Int64}, 1 ≤ pushN la → ((2 ≤ s ∧ s ≤ 10) ∨ s = 12 ∨ s = 13) → l = la ++ lb ++ [(s, 0)] → v = apV s va vb → (∀ (p : Nat) (st : List Int64) (h : HP), SegA encR h (y + 3) (400 * t + p) la → p + la.length ≤ e → st.length + pushN la ≤ 60 → RunR G h y w → StkAt h (y + 11) st → (∀ h2, FrS (RkI y) (RkL y) h h2 → StkAt h2 (y + 11) (va :: st) → KR G d Q y t e x2 (p + la.length) (va :: st) h2) → KR G d Q y t e x2 p st h) → (∀ (p : Nat) (st : List Int64) (h : HP), SegA encR h (y + 3) (400 * t + p) lb → p + lb.length ≤ e → st.length + pushN lb ≤ 60 → RunR G h y w → StkAt h (y + 11) st → (∀ h2, FrS (RkI y) (RkL y) h h2 → StkAt h2 (y + 11) (vb :: st) → KR G d Q y t e x2 (p + lb.length) (vb :: st) h2) → KR G d Q y t e x2 p st h) → KR G d Q y t e x2 p st h := by
      intro la lb s va vb pa hs' el ew ia ib
      clear ev ih
      subst el
      subst ew
      have Sa := S.left.left
      have Sb := S.left.right
      have So := S.right.one
      simp only [List.length_append, List.length_cons, List.length_nil] at hp So k
      rw [pushN_app, pushN_app, pushN_op (by omega)] at hs
      refine ia p st h Sa (by omega) (by omega) R K (fun h1 F1 K1 => ?_)
      have E1 : ∀ x, hI h1 (y + 3) x = hI h (y + 3) x := fun x => F1.i (by unfold RkI; omega)
      rw [show 400 * t + p + la.length = 400 * t + (p + la.length) by omega] at Sb
      refine ib (p + la.length) (va :: st) h1 (Sb.fr E1) (by omega) (by simp; omega) (R.fr F1) K1 (fun h2 F2 K2 => ?_)
      have E2 : ∀ x, hI h2 (y + 3) x = hI h (y + 3) x := fun x => (F2.i (by unfold RkI; omega)).trans (E1 x)
      refine k_op (s := s) hd htt (by omega) he ((R.fr F1).fr F2).1 hs' ?_ (by omega) K2 (fun h3 F3 K3 => ?_)
      · rw [E2, show 400 * t + (p + la.length + lb.length) = 400 * t + p + (la.length + lb.length) by omega]
        exact So
      · have := k h3 (F1.tr (F2.tr F3)) K3
        rw [show p + la.length + lb.length + 1 = p + (la.length + lb.length + (0 + 1)) by omega]
        exact this
    rcases ev with ⟨m, la, lb, s, va, vb, ea, eb, h25, el, ev⟩ | ⟨la, va, ea, rfl, rfl⟩ | ⟨la, lb, s, va, vb, ea, eb, h25, el, ev⟩
    · exact bin (evS_push m la va ea) (Or.inl ⟨by omega, by omega⟩) el ev (fun p st h => k_evS hd htt he m la va p st h ea) (fun p st h => k_evS hd htt he m lb vb p st h eb)
    · have Sa := S.left
      have So := S.right.one
      simp only [List.length_append, List.length_cons, List.length_nil] at hp So k
      rw [pushN_app, pushN_op (by omega)] at hs
      refine ih la va p st h ea Sa (by omega) (by omega) R K (fun h1 F1 K1 => ?_)
      have E1 : ∀ x, hI h1 (y + 3) x = hI h (y + 3) x := fun x => F1.i (by unfold RkI; omega)
      refine k_not hd htt (by omega) he (R.fr F1).1 ?_ (by omega) K1 (fun h3 F3 K3 => ?_)
      · rw [E1, show 400 * t + (p + la.length) = 400 * t + p + la.length by omega]
        exact So
      · have := k h3 (F1.tr F3) K3
        rw [show p + la.length + 1 = p + (la.length + (0 + 1)) by omega]
        exact this
    · exact bin (evT_push n la va ea) (Or.inr h25) el ev (fun p st h => ih la va p st h ea) (fun p st h => ih lb vb p st h eb)
theorem r_reckons {h : HP} {l : List Tok} {v : Int64} {p : Nat} (hd : 1 ≤ d) (htt : t < 12) (E : EvX w l v) (S : SegR h (y + 3) (400 * t + p) l) (hp : p + l.length ≤ 400) (hs : pushN l ≤ 60) (R : RunR G h y w) (hQ : ∀ h2, FrS (RkI y) (RkL y) h h2 → Q (some (.long v)) h2) : Cal G d mX12_reckons [.ref y, .int (nI t), .int (nI p), .int (nI (p + l.length))] h Q := by
  refine e_X12_reckons ⟨R.1.1, ?_⟩
  generalize g : sI h y 27 0 = h1
  have F1 : FrS (RkI y) (RkL y) h h1 := by rw [← g]; exact frS_sI _ _ ⟨rfl, rfl⟩
  have t1 : hI h1 y 27 = nI 0 := by rw [← g, hI_eq]; rfl
  have S1 : SegA encR h1 (y + 3) (400 * t + p) l := SegA.fr (fun x => F1.i (by unfold RkI; omega)) S
  have fin : ∀ h2, FrS (RkI y) (RkL y) h1 h2 → StkAt h2 (y + 11) [v] → KR G d Q y t (p + l.length) (nI p) (p + l.length) [v] h2 := by
    intro h2 F K ht
    have M2 := ((R.fr F1).fr F).1
    refine t_X12_reckons_8 hd ⟨fun _ => ⟨M2.1, r_pop (n := 0) M2 ht (by omega) ⟨_, rfl, ?_⟩⟩, fun q => absurd ((nI_le_iff (by omega) (by omega)).mpr (Nat.le_refl _)) q⟩
    have k0 : hL h2 (y + 11) 0 = v := K.1
    rw [k0]
    exact hQ _ (F1.tr (F.tr (frS_sI _ _ ⟨rfl, rfl⟩)))
  rcases E with ⟨n, E⟩ | ⟨n, E⟩
  · exact k_evS hd htt hp n l v p [] h1 E S1 (Nat.le_refl _) (by simpa using hs) (R.fr F1) trivial fin t1
  · exact k_evT hd htt hp n l v p [] h1 E S1 (Nat.le_refl _) (by simpa using hs) (R.fr F1) trivial fin t1
end RR
