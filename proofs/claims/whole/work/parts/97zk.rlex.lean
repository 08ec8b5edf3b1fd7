/-! ===== the reference reads tokens ===== -/
def RtB (h : HP) (y : Nat) (B : Nat → Int32) (n : Nat) : Prop := hI h y 1 = nI n ∧ n ≤ 400 ∧ (∀ k, k < n → hI h (y + 1) k = B k) ∧ ∀ k, k < n → rng (B k) (-128) 127
def RdX (G : GG) (h : HP) (y : Nat) (B : Nat → Int32) (n p : Nat) : Prop := MdSh G h y ∧ RtB h y B n ∧ ∃ x, x ≤ n ∧ hI h y 13 = nI x ∧ skp B n x = p
def RdE (G : GG) (h : HP) (y : Nat) (B : Nat → Int32) (n p : Nat) : Prop := MdSh G h y ∧ RtB h y B n ∧ hI h y 13 = nI p ∧ At B n p
def okN (B : Nat → Int32) (n p : Nat) (l u : Int) : Prop := kdT B n p = 2 ∧ l ≤ (vlT B n p).toInt ∧ (vlT B n p).toInt ≤ u
theorem e64 : ((8 : Int32).toInt64 &&& 63) = 8 := by decide
theorem pk64 {m c : Nat} (hm : m < 2 ^ 48) (hc : c < 128) : (Int64.ofNat m <<< ((8 : Int32).toInt64 &&& 63)) ||| (nI c).toInt64 = Int64.ofNat (m * 256 + c) := by
  have ec : (nI c).toInt64 = Int64.ofNat c := by
    rw [← Int64.toInt_inj, ti64, ti_nI (by omega)]
    rw [show Int64.ofNat c = Int64.ofInt (c : Int) from rfl, Int64.toInt_ofInt, show Int64.size = 18446744073709551616 from rfl]
    symm
    apply Int.bmod_eq_of_le <;> omega
  rw [e64, ec]
  apply Int64.toBitVec_inj.mp
  apply BitVec.eq_of_toNat_eq
  have t : ∀ k : Nat, (Int64.ofNat k).toBitVec = BitVec.ofNat 64 k := fun k => rfl
  rw [Int64.toBitVec_or, Int64.toBitVec_shiftLeft, t, t, t, show (8 : Int64).toBitVec.smod 64 = 8#64 from by decide, BitVec.toNat_or, BitVec.shiftLeft_eq', BitVec.toNat_shiftLeft, BitVec.toNat_ofNat, BitVec.toNat_ofNat, BitVec.toNat_ofNat, BitVec.toNat_ofNat]
  rw [show 8 % 2 ^ 64 = 8 from rfl, Nat.mod_eq_of_lt (show m < 2 ^ 64 by omega), Nat.mod_eq_of_lt (show c < 2 ^ 64 by omega), Nat.shiftLeft_eq, Nat.mod_eq_of_lt (show m * 2 ^ 8 < 2 ^ 64 by omega), Nat.mod_eq_of_lt (show m * 256 + c < 2 ^ 64 by omega), show m * 256 + c = m <<< 8 + c by rw [Nat.shiftLeft_eq], Nat.shiftLeft_add_eq_or_of_lt (show c < 2 ^ 8 by omega), Nat.shiftLeft_eq]
theorem lgc_iff {a b : Int64} : lg_cmp a b = 0 ↔ a = b := by
  constructor
  · intro h
    unfold lg_cmp at h
    by_cases c : a = b
    · exact c
    · split at h
      · exact absurd h (by decide)
      · first
        | exact absurd h (by decide)
        | (split at h
           · contradiction
           · exact absurd h (by decide))
  · rintro rfl
    exact lgc0 a
theorem o64 {a b : Nat} (ha : a < 2 ^ 62) (hb : b < 2 ^ 62) : Int64.ofNat a = Int64.ofNat b ↔ a = b := by
  rw [← Int64.toInt_inj, show Int64.ofNat a = Int64.ofInt (a : Int) from rfl, show Int64.ofNat b = Int64.ofInt (b : Int) from rfl, Int64.toInt_ofInt, Int64.toInt_ofInt, show Int64.size = 18446744073709551616 from rfl, Int.bmod_eq_of_le (by omega) (by omega), Int.bmod_eq_of_le (by omega) (by omega)]
  omega
section RX
variable {G : GG} {d : Nat} {h : HP} {y : Nat} {B : Nat → Int32} {n p : Nat} {Q : Option Value → HP → Prop}
def F13 (y a k : Nat) : Prop := a = y ∧ k = 13
def F135 (y a k : Nat) : Prop := a = y ∧ (k = 13 ∨ k = 14 ∨ k = 15)
theorem RtB.fi {P : Nat → Nat → Prop} {h2 : HP} (F : FrI P h h2) (hp : ∀ a k, P a k → ¬ (a = y ∧ k = 1) ∧ a ≠ y + 1) (K : RtB h y B n) : RtB h2 y B n := by
  obtain ⟨a1, a2, a3, a4⟩ := K
  exact ⟨(F.i (fun z => (hp _ _ z).1 ⟨rfl, rfl⟩)).trans a1, a2, fun k hk => (F.i (fun z => (hp _ _ z).2 rfl)).trans (a3 k hk), a4⟩
theorem RdE.x (X : RdE G h y B n p) : RdX G h y B n p := ⟨X.1, X.2.1, p, X.2.2.2.1, X.2.2.1, X.2.2.2.2⟩
theorem RdX.at (X : RdX G h y B n p) : At B n p := by
  obtain ⟨-, -, x, hx, -, e⟩ := X
  rw [← e]
  exact at_skp hx
theorem RdX.fi {P : Nat → Nat → Prop} {h2 : HP} (F : FrI P h h2) (hp : ∀ a k, P a k → ¬ (a = y ∧ (k = 1 ∨ k = 13)) ∧ a ≠ y + 1) (X : RdX G h y B n p) : RdX G h2 y B n p := by
  obtain ⟨a, b, x, hx, e, q⟩ := X
  exact ⟨a.fr F, b.fi F (fun a k z => ⟨fun w => (hp a k z).1 ⟨w.1, Or.inl w.2⟩, (hp a k z).2⟩), x, hx, (F.i (fun z => (hp _ _ z).1 ⟨rfl, Or.inr rfl⟩)).trans e, q⟩
theorem RdE.fi {P : Nat → Nat → Prop} {h2 : HP} (F : FrI P h h2) (hp : ∀ a k, P a k → ¬ (a = y ∧ (k = 1 ∨ k = 13)) ∧ a ≠ y + 1) (X : RdE G h y B n p) : RdE G h2 y B n p := by
  obtain ⟨a, b, e, q⟩ := X
  exact ⟨a.fr F, b.fi F (fun a k z => ⟨fun w => (hp a k z).1 ⟨w.1, Or.inl w.2⟩, (hp a k z).2⟩), (F.i (fun z => (hp _ _ z).1 ⟨rfl, Or.inr rfl⟩)).trans e, q⟩
theorem MdSh.tp (M : MdSh G h y) : hR h y 0 = some (y + 1) ∧ Kd G h (y + 1) 13 ∧ hN h (y + 1) = 400 := M.2 (0, 1, 13, 400) (by decide)
theorem f13_ok {a k : Nat} (z : F13 y a k) : ¬ (a = y ∧ k = 1) ∧ a ≠ y + 1 := by unfold F13 at z; omega
theorem r_see (X : RdX G h y B n p) (hQ : ∀ h2, FrI (F13 y) h h2 → RdE G h2 y B n p → Q (some (.int (seeV B n p))) h2) : Cal G d mX12_see [.ref y] h Q := by
  obtain ⟨M, E, x, hx, ex, ep⟩ := X
  have n400 := E.2.1
  have pn : At B n p := by rw [← ep]; exact at_skp hx
  have loop : ∀ c x h1, x + c = p → FrI (F13 y) h h1 → hI h1 y 13 = nI x → skp B n x = p → Ex G d mX12_see 0 [(0, .ref y)] [] h1 Q := by
    intro c
    induction c with
    | zero =>
      intro x h1 hc F e13 es
      obtain rfl : x = p := by omega
      have M1 := M.fr F
      have E1 := E.fi F (fun a k z => f13_ok z)
      obtain ⟨t1, t2, t3⟩ := M1.tp
      have p1 := pn.1
      have fin := hQ h1 F ⟨M1, E1, e13, pn⟩
      have end' : Ex G d mX12_see 38 [(0, .ref y)] [] h1 Q := by
        refine t_X12_see_38 ⟨M1.1, fun z => ?_, fun z => ?_⟩
        · rw [E1.1, e13, nI_le_iff (by omega) (by omega)] at z
          unfold seeV at fin
          rw [if_neg (by omega)] at fin
          exact fin
        · rw [E1.1, e13, nI_le_iff (by omega) (by omega)] at z
          refine ⟨y + 1, t1, t2, by rw [e13, t3]; exact vin_nI (by omega) (by omega), ?_⟩
          unfold seeV at fin
          rw [if_pos (by omega)] at fin
          rw [e13, cl_nI (by omega), E1.2.2.1 _ (by omega)]
          exact fin
      refine t_X12_see ⟨M1.1, fun _ => end', fun z => ?_⟩
      rw [E1.1, e13, nI_le_iff (by omega) (by omega)] at z
      refine ⟨y + 1, t1, t2, by rw [e13, t3]; exact vin_nI (by omega) (by omega), fun _ => end', fun w => ?_⟩
      rw [e13, cl_nI (by omega), E1.2.2.1 _ (by omega)] at w
      exact absurd w (pn.nb (by omega))
    | succ c ih =>
      intro x h1 hc F e13 es
      have M1 := M.fr F
      have E1 := E.fi F (fun a k z => f13_ok z)
      obtain ⟨t1, t2, t3⟩ := M1.tp
      have p1 := pn.1
      have al := rn_all (P := isBl) (B := B) (n := n) (p := x) (i := x) (Nat.le_refl _) (show x < skp B n x by omega)
      have b32 : B x = 32 := by
        have := al.2
        unfold isBl at this
        exact eq_of_beq this
      refine t_X12_see ⟨M1.1, fun z => ?_, fun _ => ⟨y + 1, t1, t2, by rw [e13, t3]; exact vin_nI (by omega) (by omega), fun w => ?_, fun _ => ?_⟩⟩
      · rw [E1.1, e13, nI_le_iff (by omega) (by omega)] at z
        omega
      · rw [e13, cl_nI (by omega), E1.2.2.1 _ al.1] at w
        exact absurd b32 w
      · rw [e13, nI_S]
        refine ih (x + 1) _ (by omega) (F.tr (FrI.sI h1 _ ⟨rfl, rfl⟩)) (hI_eq _ _ _ _) ?_
        have := rn_step (P := isBl) al.1 al.2
        unfold skp at es ⊢
        rw [← this]
        exact es
  have xp : x ≤ p := by rw [← ep]; exact skp_ge B n x
  exact cal_of rfl (Nat.le_of_ble_eq_true rfl) (loop (p - x) x h (by omega) (FrI.rf _ h) ex ep)
theorem r_isLetter (M : MdSh G h y) (E : RtB h y B n) {x : Nat} (hx : x ≤ 500) (h1 : x < n → isL (B x) = true → Q (some (.int 1)) h) (h0 : ¬ (x < n ∧ isL (B x) = true) → Q (some (.int 0)) h) : Cal G d mX12_isLetter [.ref y, .int (nI x)] h Q := by
  have n400 := E.2.1
  obtain ⟨t1, t2, t3⟩ := M.tp
  refine e_X12_isLetter ⟨M.1, fun z => ?_, fun z => ?_⟩
  · rw [E.1, nI_le_iff (by omega) (by omega)] at z
    exact h0 (by omega)
  · rw [E.1, nI_le_iff (by omega) (by omega)] at z
    have v : vp_in (nI x) (hN h (y + 1)) := by rw [t3]; exact vin_nI (by omega) (by omega)
    refine ⟨y + 1, t1, t2, v, ?_⟩
    rw [cl_nI (by omega), E.2.2.1 _ (by omega)]
    refine ⟨fun w => h0 (fun q => (isL_iff.mp q.2).1 w), fun w => ⟨v, fun w2 => h0 (fun q => (isL_iff.mp q.2).2 w2), fun w2 => h1 (by omega) (isL_iff.mpr ⟨w, w2⟩)⟩⟩
theorem r_isDigit (M : MdSh G h y) (E : RtB h y B n) {x : Nat} (hx : x ≤ 500) (h1 : x < n → isD (B x) = true → Q (some (.int 1)) h) (h0 : ¬ (x < n ∧ isD (B x) = true) → Q (some (.int 0)) h) : Cal G d mX12_isDigit [.ref y, .int (nI x)] h Q := by
  have n400 := E.2.1
  obtain ⟨t1, t2, t3⟩ := M.tp
  refine e_X12_isDigit ⟨M.1, fun z => ?_, fun z => ?_⟩
  · rw [E.1, nI_le_iff (by omega) (by omega)] at z
    exact h0 (by omega)
  · rw [E.1, nI_le_iff (by omega) (by omega)] at z
    have v : vp_in (nI x) (hN h (y + 1)) := by rw [t3]; exact vin_nI (by omega) (by omega)
    refine ⟨y + 1, t1, t2, v, ?_⟩
    rw [cl_nI (by omega), E.2.2.1 _ (by omega)]
    refine ⟨fun w => h0 (fun q => (isD_iff.mp q.2).1 w), fun w => ⟨v, fun w2 => h0 (fun q => (isD_iff.mp q.2).2 w2), fun w2 => h1 (by omega) (isD_iff.mpr ⟨w, w2⟩)⟩⟩
theorem kd1 (h : kdT B n p = 1) : p < n ∧ isL (B p) = true := by
  unfold kdT at h
  by_cases c : n ≤ p
  · rw [if_pos c] at h
    omega
  · rw [if_neg c] at h
    by_cases c1 : isL (B p) = true
    · exact ⟨by omega, c1⟩
    · rw [if_neg c1] at h
      split at h <;> omega
theorem kd1' (h : p < n) (h2 : isL (B p) = true) : kdT B n p = 1 ∧ vlT B n p = wix (ltr B p (rn isL B n p - p)) ∧ nxT B n p = rn isL B n p := by
  unfold kdT vlT nxT
  rw [if_neg (by omega), if_pos h2, if_neg (by omega), if_pos h2, if_neg (by omega), if_pos h2]
  exact ⟨rfl, rfl, rfl⟩
theorem isLD {x : Int32} (h : isD x = true) : ¬ isL x = true := fun q => by
  unfold isD at h
  unfold isL at q
  rw [decide_eq_true_eq] at h q
  omega
theorem kd2 (h : kdT B n p = 2) : p < n ∧ isD (B p) = true := by
  unfold kdT at h
  by_cases c : n ≤ p
  · rw [if_pos c] at h
    omega
  · rw [if_neg c] at h
    by_cases c1 : isL (B p) = true
    · rw [if_pos c1] at h
      omega
    · rw [if_neg c1] at h
      by_cases c2 : isD (B p) = true
      · exact ⟨by omega, c2⟩
      · rw [if_neg c2] at h
        omega
theorem kd2' (h : p < n) (h2 : isD (B p) = true) : kdT B n p = 2 ∧ vlT B n p = (if 5 < rn isD B n p - p then -1 else nI (dgF B p (rn isD B n p - p))) ∧ nxT B n p = rn isD B n p := by
  have h1 := isLD h2
  refine ⟨?_, ?_, ?_⟩
  · unfold kdT
    rw [if_neg (by omega), if_neg h1, if_pos h2]
  · unfold vlT
    rw [if_neg (by omega), if_neg h1, if_pos h2]
  · unfold nxT
    rw [if_neg (by omega), if_neg h1, if_pos h2]
theorem r_isWord (hd : 1 ≤ d) (X : RdX G h y B n p) {k : Nat} {w : Int64} (hk : k < 23) (hw : w = Int64.ofNat (pkL (wds.getD k []))) (h1 : kdT B n p = 1 → vlT B n p = nI k → ∀ h2, FrI (F13 y) h h2 → RdE G h2 y B n p → Q (some (.int 1)) h2) (h0 : ¬ (kdT B n p = 1 ∧ vlT B n p = nI k) → ∀ h2, FrI (F13 y) h h2 → RdE G h2 y B n p → Q (some (.int 0)) h2) : Cal G d mX12_isWord [.ref y, .long w] h Q := by
  refine e_X12_isWord hd ⟨X.1.1, r_see X (fun h2 F2 X2 => ⟨_, rfl, ?_⟩)⟩
  have n400 := X2.2.1.2.1
  have pn := X2.2.2.2
  have rge := rn_ge isL B n p
  have rle := rn_le (P := isL) (B := B) pn.1
  obtain ⟨wk1, wk2, wk3⟩ := wds_ok k hk
  have loop : ∀ c j (v : Int64), j + c = rn isL B n p - p → (j ≤ 7 → v = Int64.ofNat (pkL (ltr B p j))) → Ex G d mX12_isWord 10 [(0, .ref y), (1, .long w), (3, .long v), (5, .int (nI j))] [] h2 Q := by
    intro c
    induction c with
    | zero =>
      intro j v hj hv
      have en := rn_end isL B n p
      have ej : p + j = rn isL B n p := by omega
      rw [← ej] at en
      refine t_X12_isWord_10 hd ⟨X2.1.1, ?_⟩
      rw [X2.2.2.1, nA]
      refine r_isLetter X2.1 X2.2.1 (by omega) (fun a b => absurd ⟨a, b⟩ en) (fun _ => ⟨_, rfl, fun _ => ⟨fun z => ?_, fun z => ⟨fun z2 => ?_, fun z2 => ⟨fun z3 => ?_, fun z3 => ?_⟩⟩⟩, fun q => absurd rfl q⟩)
      · have z := (nI_le_iff (b := 0) (by omega) (by omega)).mp z
        refine h0 (fun q => ?_) h2 F2 X2
        obtain ⟨a, b⟩ := kd1 q.1
        have := rn_step (P := isL) a b
        have := rn_ge isL B n (p + 1)
        omega
      · have z2 := (nI_le_iff (a := 8) (by omega) (by omega)).mp z2
        refine h0 (fun q => ?_) h2 F2 X2
        obtain ⟨a, b⟩ := kd1 q.1
        rw [(kd1' a b).2.1, wix_iff hk] at q
        have := ltr_len B p (rn isL B n p - p)
        rw [q.2] at this
        omega
      · refine h0 (fun q => ?_) h2 F2 X2
        obtain ⟨a, b⟩ := kd1 q.1
        rw [(kd1' a b).2.1, wix_iff hk] at q
        have j7 : j ≤ 7 := Classical.byContradiction (fun y => z2 ((nI_le_iff (a := 8) (by omega) (by omega)).mpr (by omega)))
        refine z3 (lgc_iff.mpr ?_)
        rw [hv j7, hw, ← q.2, show rn isL B n p - p = j by omega]
      · have z : ¬ j ≤ 0 := fun y => z ((nI_le_iff (b := 0) (by omega) (by omega)).mpr y)
        have j7 : j ≤ 7 := Classical.byContradiction (fun y => z2 ((nI_le_iff (a := 8) (by omega) (by omega)).mpr (by omega)))
        have al := rn_all (P := isL) (B := B) (n := n) (p := p) (i := p) (Nat.le_refl _) (by omega)
        obtain ⟨q1, q2, -⟩ := kd1' (B := B) al.1 al.2
        refine h1 q1 ?_ h2 F2 X2
        rw [q2, wix_iff hk, show rn isL B n p - p = j by omega]
        have mem := ltr_mem (B := B) (p := p) (k := j) (fun i hi => (rn_all (P := isL) (B := B) (n := n) (p := p) (i := p + i) (by omega) (by omega)).2)
        refine pkL_inj _ _ mem wk1 ?_
        have e := lgc_iff.mp z3
        rw [hv j7, hw] at e
        have b1 := pkL_lt _ mem
        have b2 := pkL_lt _ wk1
        rw [ltr_len] at b1
        have p1 : 256 ^ j ≤ 256 ^ 7 := Nat.pow_le_pow_right (by omega) j7
        have p2 : 256 ^ (wds.getD k []).length ≤ 256 ^ 7 := Nat.pow_le_pow_right (by omega) (by omega)
        exact (o64 (by omega) (by omega)).mp e
    | succ c ih =>
      intro j v hj hv
      have al := rn_all (P := isL) (B := B) (n := n) (p := p) (i := p + j) (by omega) (by omega)
      obtain ⟨t1, t2, t3⟩ := X2.1.tp
      refine t_X12_isWord_10 hd ⟨X2.1.1, ?_⟩
      rw [X2.2.2.1, nA]
      refine r_isLetter X2.1 X2.2.1 (by omega) (fun _ _ => ⟨_, rfl, fun q => absurd q (by decide), fun _ => ⟨fun z => ?_, fun z => ⟨y + 1, t1, t2, by rw [X2.2.2.1, nA, t3]; exact vin_nI (by omega) (by omega), ?_⟩⟩⟩) (fun q => absurd al q)
      · have z := (nI_le_iff (a := 8) (by omega) (by omega)).mp z
        rw [nI_S]
        exact ih (j + 1) _ (by omega) (fun q => by omega)
      · have z : ¬ 8 ≤ j := fun q => z ((nI_le_iff (a := 8) (by omega) (by omega)).mpr q)
        rw [nI_S, X2.2.2.1, nA, cl_nI (by omega), X2.2.1.2.2.1 _ al.1]
        refine ih (j + 1) _ (by omega) (fun j7 => ?_)
        have mem := ltr_mem (B := B) (p := p) (k := j) (fun i hi => (rn_all (P := isL) (B := B) (n := n) (p := p) (i := p + i) (by omega) (by omega)).2)
        have b1 := pkL_lt _ mem
        rw [ltr_len] at b1
        have p1 : 256 ^ j ≤ 256 ^ 6 := Nat.pow_le_pow_right (by omega) (by omega)
        have lt := al.2
        unfold isL at lt
        rw [decide_eq_true_eq] at lt
        obtain ⟨c, hc, ec⟩ : ∃ c, c < 128 ∧ B (p + j) = nI c := of_in (by omega) (by omega)
        rw [hv (by omega), ec, pk64 (by omega) hc]
        show _ = Int64.ofNat (pkL (ltr B p j ++ [B (p + j)]))
        rw [pkL_app, ec, ti_nI (by omega)]
        rfl
  exact loop (rn isL B n p - p) 0 0 (by omega) (fun _ => rfl)
theorem r_passWord (hd : 1 ≤ d) (X : RdE G h y B n p) (hk : kdT B n p = 1) (hQ : ∀ h2, FrI (F13 y) h h2 → RdX G h2 y B n (nxP B n p) → hI h2 y 13 = nI (nxT B n p) → Q none h2) : Cal G d mX12_passWord [.ref y] h Q := by
  obtain ⟨M, E, e13, pn⟩ := X
  have n400 := E.2.1
  obtain ⟨a, b⟩ := kd1 hk
  obtain ⟨-, -, k3⟩ := kd1' (B := B) a b
  have rge := rn_ge isL B n p
  have rle := rn_le (P := isL) (B := B) pn.1
  have loop : ∀ c x h1, x + c = rn isL B n p → p ≤ x → FrI (F13 y) h h1 → hI h1 y 13 = nI x → Ex G d mX12_passWord 0 [(0, .ref y)] [] h1 Q := by
    intro c
    induction c with
    | zero =>
      intro x h1 hc hx F e
      have M1 := M.fr F
      have E1 := E.fi F (fun a k z => f13_ok z)
      have en := rn_end isL B n p
      rw [show rn isL B n p = x by omega] at en
      refine t_X12_passWord hd ⟨M1.1, ?_⟩
      rw [e]
      refine r_isLetter M1 E1 (by omega) (fun a b => absurd ⟨a, b⟩ en) (fun _ => ⟨_, rfl, fun _ => hQ h1 F ⟨M1, E1, x, by omega, e, ?_⟩ ?_, fun q => absurd rfl q⟩)
      · unfold nxP
        rw [k3, show rn isL B n p = x by omega]
      · rw [e, k3, show rn isL B n p = x by omega]
    | succ c ih =>
      intro x h1 hc hx F e
      have M1 := M.fr F
      have E1 := E.fi F (fun a k z => f13_ok z)
      have al := rn_all (P := isL) (B := B) (n := n) hx (by omega)
      refine t_X12_passWord hd ⟨M1.1, ?_⟩
      rw [e]
      refine r_isLetter M1 E1 (by omega) (fun _ _ => ⟨_, rfl, fun q => absurd q (by decide), fun _ => ?_⟩) (fun q => absurd al q)
      rw [e, nI_S]
      exact ih (x + 1) _ (by omega) (by omega) (F.tr (FrI.sI h1 _ ⟨rfl, rfl⟩)) (hI_eq _ _ _ _)
  exact cal_of rfl (Nat.le_of_ble_eq_true rfl) (loop (rn isL B n p - p) p h (by omega) (Nat.le_refl _) (FrI.rf _ h) e13)
/-- a fault, the first -/
theorem r_fails (M : MdSh G h y) (w0 : hI h y 14 = 0) {k q : Nat} {x : Int32} (hx : x = nI k) (hQ : Q (some (.int 0)) (sI h y 14 (nI (1 + 8 * q + k)))) : Cal G d mX12_fails [.ref y, .int x, .int (nI q)] h Q := by
  refine e_X12_fails ⟨M.1, fun z => absurd w0 z, fun _ => ?_⟩
  rw [hx, show (1 : Int32) + 8 * nI q + nI k = nI (1 + 8 * q + k) from by
    rw [show (1 : Int32) + 8 * nI q + nI k = nI 1 + nI 8 * nI q + nI k from rfl, nM, nA, nA]]
  exact hQ
def fcN (B : Nat → Int32) (n p : Nat) : Nat := 1 + 8 * p + (if kdT B n p = 2 then 1 else 0)
theorem r_numberHere (hd : 1 ≤ d) (X : RdX G h y B n p) (w0 : hI h y 14 = 0) {l u : Nat} (hl : l ≤ 100000) (hu : u ≤ 100000) (h0 : ¬ okN B n p l u → ∀ h2, FrI (F135 y) h h2 → hI h2 y 14 = nI (fcN B n p) → MdSh G h2 y → Q (some (.int 0)) h2) (h1 : okN B n p l u → ∀ h2, FrI (F135 y) h h2 → RdX G h2 y B n (nxP B n p) → hI h2 y 15 = vlT B n p → hI h2 y 14 = 0 → Q (some (.int 1)) h2) : Cal G d mX12_numberHere [.ref y, .int (nI l), .int (nI u)] h Q := by
  refine e_X12_numberHere hd ⟨X.1.1, r_see X (fun h2 F2 X2 => ⟨_, rfl, ?_⟩)⟩
  have n400 := X2.2.1.2.1
  have pn := X2.2.2.2
  have w2 : hI h2 y 14 = 0 := (F2.i (by unfold F13; omega)).trans w0
  have F2' : FrI (F135 y) h h2 := F2.weak (fun a k z => by unfold F13 at z; unfold F135; omega)
  rw [X2.2.2.1]
  refine r_isDigit X2.1 X2.2.1 (by have := pn.1; omega) (fun a b => ⟨_, rfl, fun _ => ?_, fun q => absurd q (by decide)⟩) (fun c => ⟨_, rfl, fun q => absurd rfl q, fun _ => ?_⟩)
  rotate_left
  · have nk : ¬ kdT B n p = 2 := fun q => c (kd2 q)
    rw [X2.2.2.1]
    refine r_fails X2.1 w2 (k := 0) rfl ⟨_, rfl, Or.inl rfl, h0 (fun q => nk q.1) _ (F2'.tr (FrI.sI (P := F135 y) h2 _ ⟨rfl, Or.inr (Or.inl rfl)⟩)) ?_ (X2.1.fr (FrI.sI (P := F135 y) h2 _ ⟨rfl, Or.inr (Or.inl rfl)⟩))⟩
    rw [hI_eq]
    unfold fcN
    rw [if_neg nk]
  · obtain ⟨k1, k2, k3⟩ := kd2' (B := B) a b
    have rge := rn_ge isD B n p
    have rle := rn_le (P := isD) (B := B) pn.1
    have dg : ∀ i, i < rn isD B n p - p → isD (B (p + i)) = true := fun i hi => (rn_all (P := isD) (B := B) (n := n) (p := p) (i := p + i) (by omega) (by omega)).2
    have loop : ∀ c q h3, c + q = rn isD B n p → p ≤ q → FrI (F13 y) h2 h3 → hI h3 y 13 = nI q → Ex G d mX12_numberHere 34 [(0, .ref y), (1, .int (nI l)), (2, .int (nI u)), (3, .int (nI p)), (4, .int (nI (dgF B p (if 5 ≤ q - p then 5 else q - p))))] [] h3 Q := by
      intro c
      induction c with
      | zero =>
        intro q h3 hc hq F3 e
        have M3 := X2.1.fr F3
        have E3 := X2.2.1.fi F3 (fun a k z => f13_ok z)
        have w3 : hI h3 y 14 = 0 := (F3.i (by unfold F13; omega)).trans w2
        have en := rn_end isD B n p
        rw [show rn isD B n p = q by omega] at en
        have v5 : dgF B p (if 5 ≤ q - p then 5 else q - p) < 100000 := by
          have := dgF_lt (B := B) (p := p) (k := if 5 ≤ q - p then 5 else q - p) (fun i hi => dg i (by split at hi <;> omega))
          have p5 : 10 ^ (if 5 ≤ q - p then 5 else q - p) ≤ 10 ^ 5 := Nat.pow_le_pow_right (by omega) (by split <;> omega)
          omega
        generalize g4 : sI h3 y 15 (nI (dgF B p (if 5 ≤ q - p then 5 else q - p))) = h4
        have F4 : FrI (F135 y) h2 h4 := by
          rw [← g4]
          exact (F3.weak (fun a k z => by unfold F13 at z; unfold F135; omega)).tr (FrI.sI (P := F135 y) h3 _ ⟨rfl, Or.inr (Or.inr rfl)⟩)
        have w4 : hI h4 y 14 = 0 := by rw [← g4, hI_ne _ _ (Or.inr (by omega))]; exact w3
        have e4 : hI h4 y 13 = nI q := by rw [← g4, hI_ne _ _ (Or.inr (by omega))]; exact e
        have M4 := X2.1.fr F4
        have bad : ¬ okN B n p l u → Ex G d mX12_numberHere 117 [(0, .ref y), (1, .int (nI l)), (2, .int (nI u)), (3, .int (nI p)), (4, .int (nI (dgF B p (if 5 ≤ q - p then 5 else q - p))))] [] h4 Q := fun nk => by
          refine t_X12_numberHere_117 hd ⟨M4.1, r_fails M4 w4 (k := 1) rfl ⟨_, rfl, fun _ => h0 nk _ ((F2'.tr F4).tr (FrI.sI (P := F135 y) h4 _ ⟨rfl, Or.inr (Or.inl rfl)⟩)) ?_ (M4.fr (FrI.sI (P := F135 y) h4 _ ⟨rfl, Or.inr (Or.inl rfl)⟩)), fun q => absurd rfl q⟩⟩
          rw [hI_eq]
          unfold fcN
          rw [if_pos k1]
        refine t_X12_numberHere_34 hd ⟨M3.1, ?_⟩
        rw [e]
        refine r_isDigit M3 E3 (by omega) (fun a b => absurd ⟨a, b⟩ en) (fun _ => ⟨_, rfl, fun _ => ?_, fun q => absurd rfl q⟩)
        rw [g4, e4, nS hq]
        refine ⟨fun z => bad (fun ok => ?_), fun z => r_in ⟨_, rfl, fun c1 => ?_, fun c1 => bad (fun ok => ?_)⟩⟩
        · have z := (nI_lt_iff (a := 5) (by omega) (by omega)).mp z
          have o2 := ok.2.1
          rw [k2, if_pos (by omega), tn1] at o2
          omega
        · have z : ¬ 5 < q - p := fun k => z ((nI_lt_iff (a := 5) (by omega) (by omega)).mpr k)
          have ee : (if 5 ≤ q - p then 5 else q - p) = rn isD B n p - p := by split <;> omega
          have vv : vlT B n p = nI (dgF B p (if 5 ≤ q - p then 5 else q - p)) := by rw [k2, if_neg (by omega), ee]
          have c1 := Decidable.not_not.mp (fun z => c1 (if10.mpr z))
          rw [ti64, ti64, ti64, ti_nI (by omega), ti_nI (by omega), ti_nI (by omega)] at c1
          refine h1 ⟨k1, ?_, ?_⟩ h4 (F2'.tr F4) ⟨M4, X2.2.1.fi F4 (fun a k z => by unfold F135 at z; omega), q, by omega, e4, ?_⟩ ?_ w4
          · rw [vv, ti_nI (by omega)]
            omega
          · rw [vv, ti_nI (by omega)]
            omega
          · unfold nxP
            rw [k3, show rn isD B n p = q by omega]
          · rw [← g4, hI_eq, vv]
        · have z : ¬ 5 < q - p := fun k => z ((nI_lt_iff (a := 5) (by omega) (by omega)).mpr k)
          have ee : (if 5 ≤ q - p then 5 else q - p) = rn isD B n p - p := by split <;> omega
          have vv : vlT B n p = nI (dgF B p (if 5 ≤ q - p then 5 else q - p)) := by rw [k2, if_neg (by omega), ee]
          have c1 := if10.mp c1
          rw [ti64, ti64, ti64, ti_nI (by omega), ti_nI (by omega), ti_nI (by omega)] at c1
          have o := ok.2
          rw [vv, ti_nI (by omega)] at o
          exact c1 o
      | succ c ih =>
        intro q h3 hc hq F3 e
        have M3 := X2.1.fr F3
        have E3 := X2.2.1.fi F3 (fun a k z => f13_ok z)
        have al := rn_all (P := isD) (B := B) (n := n) hq (by omega)
        obtain ⟨t1, t2, t3⟩ := M3.tp
        have nx := fun v => ih (q + 1) (sI h3 y 13 v) (by omega) (by omega) (F3.tr (FrI.sI h3 _ ⟨rfl, rfl⟩))
        refine t_X12_numberHere_34 hd ⟨M3.1, ?_⟩
        rw [e]
        refine r_isDigit M3 E3 (by omega) (fun _ _ => ⟨_, rfl, fun q => absurd q (by decide), fun _ => ?_⟩) (fun q => absurd al q)
        rw [e, nS hq, nI_S]
        refine ⟨fun z => ?_, fun z => ⟨y + 1, t1, t2, by rw [t3]; exact vin_nI (by omega) (by omega), ?_⟩⟩
        · have z := (nI_le_iff (a := 5) (by omega) (by omega)).mp z
          have := nx (nI (q + 1)) (hI_eq _ _ _ _)
          rw [if_pos (by omega)] at this
          rw [if_pos z]
          exact this
        · have z : ¬ 5 ≤ q - p := fun k => z ((nI_le_iff (a := 5) (by omega) (by omega)).mpr k)
          have := nx (nI (q + 1)) (hI_eq _ _ _ _)
          rw [show (if 5 ≤ q + 1 - p then 5 else q + 1 - p) = q - p + 1 by split <;> omega] at this
          have ds := (dg_step (B := B) (p := p) (k := q - p) (by omega) (fun i hi => dg i (by omega))).2
          rw [show p + (q - p) = q by omega] at ds
          rw [if_neg z, cl_nI (by omega), E3.2.2.1 _ al.1, ds]
          exact this
    have := loop (rn isD B n p - p) p h2 (by omega) (Nat.le_refl _) (FrI.rf _ h2) X2.2.2.1
    rw [Nat.sub_self, if_neg (by omega)] at this
    rw [X2.2.2.1]
    exact this
end RX
/-! the class, likewise -/
section CX
variable {G : GG} {d : Nat} {h : HP} {T : Nat} {B : Nat → Int32} {n p : Nat} {Q : Option Value → HP → Prop}
theorem kdT_le (B : Nat → Int32) (n p : Nat) : kdT B n p ≤ 3 := by
  unfold kdT
  split
  · omega
  · split
    · omega
    · split <;> omega
theorem TpS.fi {P : Nat → Nat → Prop} {h2 : HP} (F : FrI P h h2) (hp : ∀ a k, P a k → ¬ (a = T ∧ k ≠ 1) ∧ a ≠ T + 1 ∧ a ≠ T + 2 ∧ a ≠ T + 3 ∧ a ≠ T + 4) (S : TpS G h T B n p) : TpS G h2 T B n p := by
  obtain ⟨K, E, i, m, hi, hm, em, ep, lt, A, e9, e10, e2, e3, e4⟩ := S
  have ei : ∀ a k, (a = T ∧ k ≠ 1) ∨ a = T + 2 ∨ a = T + 3 ∨ a = T + 4 → hI h2 a k = hI h a k := fun a k z => F.i (fun w => by have := hp a k w; omega)
  refine ⟨K.fi F, E.fi F (fun a k z => by have := hp a k z; omega), i, m, hi, hm, em, ep, lt, fun j hj => ?_, (ei _ _ (Or.inl ⟨rfl, by omega⟩)).trans e9, (ei _ _ (Or.inl ⟨rfl, by omega⟩)).trans e10, (ei _ _ (Or.inl ⟨rfl, by omega⟩)).trans e2, (ei _ _ (Or.inl ⟨rfl, by omega⟩)).trans e3, (ei _ _ (Or.inl ⟨rfl, by omega⟩)).trans e4⟩
  rw [ei _ _ (Or.inr (Or.inl rfl)), ei _ _ (Or.inr (Or.inr (Or.inl rfl))), ei _ _ (Or.inr (Or.inr (Or.inr rfl)))]
  exact A j hj
theorem TpS.f (S : TpS G h T B n p) : Kd G h T 8 ∧ hI h T 2 = nI (kdT B n p) ∧ hI h T 3 = nI p ∧ hI h T 4 = vlT B n p := by
  obtain ⟨K, E, i, m, hi, hm, em, ep, lt, A, e9, e10, e2, e3, e4⟩ := S
  exact ⟨K.1, e2, e3, e4⟩
theorem s_isWord (S : TpS G h T B n p) {k : Nat} {x : Int32} (hx : x = nI k) (h1 : kdT B n p = 1 → vlT B n p = nI k → Q (some (.int 1)) h) (h0 : ¬ (kdT B n p = 1 ∧ vlT B n p = nI k) → Q (some (.int 0)) h) : Cal G d mX8_isWord [.ref T, .int x] h Q := by
  obtain ⟨f1, f2, f3, f4⟩ := S.f
  have := kdT_le B n p
  refine e_X8_isWord ⟨f1, ?_⟩
  rw [f2, f4, hx, show (1 : Int32) = nI 1 from rfl, nI_eq_iff (by omega) (by omega)]
  exact ⟨fun z => h0 (fun q => z q.1), fun z => ⟨fun z2 => h0 (fun q => z2 q.2), fun z2 => h1 z z2⟩⟩
theorem s_isSign (S : TpS G h T B n p) {x : Int32} (h1 : kdT B n p = 3 → vlT B n p = x → Q (some (.int 1)) h) (h0 : ¬ (kdT B n p = 3 ∧ vlT B n p = x) → Q (some (.int 0)) h) : Cal G d mX8_isSign [.ref T, .int x] h Q := by
  obtain ⟨f1, f2, f3, f4⟩ := S.f
  have := kdT_le B n p
  refine e_X8_isSign ⟨f1, ?_⟩
  rw [f2, f4, show (3 : Int32) = nI 3 from rfl, nI_eq_iff (by omega) (by omega)]
  exact ⟨fun z => h0 (fun q => z q.1), fun z => ⟨fun z2 => h0 (fun q => z2 q.2), fun z2 => h1 z z2⟩⟩
theorem s_fail (S : TpS G h T B n p) {k : Nat} {x : Int32} (hx : x = nI k) (hQ : Q (some (.int 0)) (sI h T 1 (nI (1 + 8 * p + k)))) : Cal G d mX8_fail [.ref T, .int x] h Q := by
  obtain ⟨f1, f2, f3, f4⟩ := S.f
  refine e_X8_fail ⟨f1, ?_⟩
  rw [f3, hx, show (1 : Int32) + 8 * nI p + nI k = nI (1 + 8 * p + k) from by
    rw [show (1 : Int32) + 8 * nI p + nI k = nI 1 + nI 8 * nI p + nI k from rfl, nM, nA, nA]]
  exact hQ
def Fa1 (T a k : Nat) : Prop := a = T ∧ k = 1
theorem s_number (hd : 1 ≤ d) (S : TpS G h T B n p) {l u : Nat} (hl : l ≤ 100000) (hu : u ≤ 100000) (h0 : ¬ okN B n p l u → ∀ h2, FrI (Fa1 T) h h2 → hI h2 T 1 = nI (fcN B n p) → Q (some (.int (-1))) h2) (h1 : okN B n p l u → ∀ h2, FrI (NxF T) h h2 → TpS G h2 T B n (nxP B n p) → Q (some (.int (vlT B n p))) h2) : Cal G d mX8_number [.ref T, .int (nI l), .int (nI u)] h Q := by
  obtain ⟨f1, f2, f3, f4⟩ := S.f
  have kl := kdT_le B n p
  have bad : ¬ okN B n p l u → Ex G d mX8_number 24 [(0, .ref T), (1, .int (nI l)), (2, .int (nI u))] [] h Q := fun nk => by
    refine t_X8_number_24 hd ⟨f1, ?_⟩
    rw [f2, show (2 : Int32) = nI 2 from rfl, nI_eq_iff (by omega) (by omega)]
    refine ⟨fun z => s_fail S (k := 0) rfl ⟨_, rfl, h0 nk _ (FrI.sI h _ ⟨rfl, rfl⟩) ?_⟩, fun z => s_fail S (k := 1) rfl ⟨_, rfl, h0 nk _ (FrI.sI h _ ⟨rfl, rfl⟩) ?_⟩⟩
    · rw [hI_eq]
      unfold fcN
      rw [if_neg z]
    · rw [hI_eq]
      unfold fcN
      rw [if_pos z]
  refine e_X8_number hd ⟨f1, ?_⟩
  rw [f2, f4, show (2 : Int32) = nI 2 from rfl, nI_eq_iff (by omega) (by omega)]
  refine ⟨fun z => bad (fun k => z k.1), fun z => ⟨fun z2 => bad (fun k => ?_), fun z2 => ⟨fun z3 => s_next S (fun h2 F2 S2 => ⟨rfl, h1 ⟨z, ?_, ?_⟩ h2 F2 S2⟩), fun z3 => bad (fun k => ?_)⟩⟩⟩
  · rw [ti_lt, ti_nI (by omega)] at z2
    have := k.2.1
    omega
  · rw [ti_lt, ti_nI (by omega)] at z2
    omega
  · rw [ti_le, ti_nI (by omega)] at z3
    omega
  · rw [ti_le, ti_nI (by omega)] at z3
    have := k.2.2
    omega
end CX
