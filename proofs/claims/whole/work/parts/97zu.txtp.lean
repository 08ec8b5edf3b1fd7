/-! ===== a text, as it is read: pure ===== -/
/-- place, values made, code -/
abbrev Rs : Type := Nat ⊕ (Nat × Nat × List Tok)
def opA (v : Int32) : Nat := if v = 43 then 2 else if v = 45 then 3 else 0
def opM (v : Int32) : Nat := if v = 42 then 4 else if v = 47 then 5 else 0
def cmO (v : Int32) : Nat := if v = 60 then 6 else if v = 256 then 7 else if v = 61 then 8 else if v = 257 then 9 else if v = 62 then 10 else 0
def valR (B : Nat → Int32) (n p m : Nat) : Rs := if kdT B n p = 2 then (if vlT B n p = -1 then .inl (1 + 8 * p + 1) else if 60 ≤ m then .inl (1 + 8 * p + 3) else .inr (nxP B n p, m + 1, [(0, vlT B n p)])) else if kdT B n p = 1 ∧ 0 ≤ (vlT B n p).toInt ∧ (vlT B n p).toInt < 12 then (if 60 ≤ m then .inl (1 + 8 * p + 3) else .inr (nxP B n p, m + 1, [(1, vlT B n p)])) else .inl (1 + 8 * p + 0)
def terL (B : Nat → Int32) (n : Nat) : Nat → Nat → Nat → List Tok → Rs
  | 0, _, _, _ => .inl 0
  | k + 1, p, m, l => if kdT B n p = 3 ∧ opM (vlT B n p) ≠ 0 then sbind (valR B n (nxP B n p) m) (fun r => terL B n k r.1 r.2.1 (l ++ r.2.2 ++ [(opM (vlT B n p), 0)])) else .inr (p, m, l)
def terR (B : Nat → Int32) (n k p m : Nat) : Rs := sbind (valR B n p m) (fun r => terL B n k r.1 r.2.1 r.2.2)
def suL (B : Nat → Int32) (n : Nat) : Nat → Nat → Nat → List Tok → Rs
  | 0, _, _, _ => .inl 0
  | k + 1, p, m, l => if kdT B n p = 3 ∧ opA (vlT B n p) ≠ 0 then sbind (terR B n k (nxP B n p) m) (fun r => suL B n k r.1 r.2.1 (l ++ r.2.2 ++ [(opA (vlT B n p), 0)])) else .inr (p, m, l)
def suR (B : Nat → Int32) (n k p m : Nat) : Rs := sbind (terR B n k p m) (fun r => suL B n k r.1 r.2.1 r.2.2)
def cmR (B : Nat → Int32) (n k p m : Nat) : Rs := sbind (suR B n k p m) (fun a => if kdT B n a.1 = 3 ∧ cmO (vlT B n a.1) ≠ 0 then (if 60 ≤ a.2.1 then .inl (1 + 8 * a.1 + 3) else sbind (suR B n k (nxP B n a.1) (a.2.1 + 1)) (fun b => .inr (b.1, b.2.1, a.2.2 ++ b.2.2 ++ [(cmO (vlT B n a.1), 0)]))) else .inl (1 + 8 * a.1 + 0))
def orT (w : Bool) : List Tok := if w = true then [(13, 0)] else []
/-- a fact (true), or what follows the first fact of a test -/
def tsF (B : Nat → Int32) (n : Nat) : Nat → Bool → Nat → Nat → Nat → Bool → List Tok → Rs
  | 0, _, _, _, _, _, _ => .inl 0
  | k + 1, true, d, p, m, _, _ =>
    if kdT B n p = 1 ∧ vlT B n p = 14 then (if 10 ≤ d then .inl (1 + 8 * p + 2) else sbind (tsF B n k true (d + 1) (nxP B n p) m false []) (fun r => .inr (r.1, r.2.1, r.2.2 ++ [(11, 0)])))
    else if kdT B n p = 3 ∧ vlT B n p = 91 then (if 10 ≤ d then .inl (1 + 8 * p + 2) else sbind (sbind (tsF B n k true (d + 1) (nxP B n p) m false []) (fun r => tsF B n k false (d + 1) r.1 r.2.1 false r.2.2)) (fun r => if kdT B n r.1 = 3 ∧ vlT B n r.1 = 93 then .inr (nxP B n r.1, r.2) else .inl (1 + 8 * r.1 + 0)))
    else cmR B n (k + 1) p m
  | k + 1, false, d, p, m, w, l =>
    if kdT B n p = 1 ∧ vlT B n p = 18 then sbind (tsF B n k true d (nxP B n p) m false []) (fun r => tsF B n k false d r.1 r.2.1 w (l ++ r.2.2 ++ [(12, 0)]))
    else if kdT B n p = 1 ∧ vlT B n p = 19 then sbind (tsF B n k true d (nxP B n p) m false []) (fun r => tsF B n k false d r.1 r.2.1 true (l ++ orT w ++ r.2.2))
    else .inr (p, m, l ++ orT w)
def tsR (B : Nat → Int32) (n k p m : Nat) : Rs := sbind (tsF B n k true 0 p m false []) (fun r => tsF B n k false 0 r.1 r.2.1 false r.2.2)
def SumQ (l : List Tok) : Prop := ∃ k, SumP k l
def TestQ (l : List Tok) : Prop := ∃ k, TestP k l
/-- a test so far: an or may wait -/
def TesW (w : Bool) (l : List Tok) : Prop := (w = false ∧ TestQ l) ∨ (w = true ∧ ∃ u v, l = u ++ v ∧ TestQ u ∧ TestQ v)
def OkR (B : Nat → Int32) (n p m : Nat) (P : List Tok → Prop) (R : Rs) : Prop := (∀ e, R = .inl e → 1 ≤ e ∧ e ≤ 1 + 8 * n + 5) ∧ ∀ r, R = .inr r → (At B n r.1 ∧ p + r.2.2.length ≤ r.1 ∧ p < r.1) ∧ (m + pushN r.2.2 ≤ r.2.1 ∧ r.2.1 ≤ 60) ∧ P r.2.2
section TP
variable {B : Nat → Int32} {n : Nat}
theorem SumP.up : ∀ {k : Nat} {l : List Tok}, SumP k l → SumP (k + 1) l
  | 0, l, h => h.elim
  | k + 1, l, h => by
    rcases h with h | h | ⟨a, b, s, ha, hb, h⟩
    · exact Or.inl h
    · exact Or.inr (Or.inl h)
    · exact Or.inr (Or.inr ⟨a, b, s, ha.up, hb.up, h⟩)
theorem SumP.ups {k : Nat} {l : List Tok} (h : SumP k l) : ∀ j, SumP (k + j) l
  | 0 => h
  | j + 1 => (h.ups j).up
theorem SumQ.op {a b : List Tok} {s : Nat} (ha : SumQ a) (hb : SumQ b) (h1 : 2 ≤ s) (h2 : s ≤ 5) : SumQ (a ++ b ++ [(s, 0)]) := by
  obtain ⟨k, ha⟩ := ha
  obtain ⟨j, hb⟩ := hb
  exact ⟨k + j + 1, Or.inr (Or.inr ⟨a, b, s, ha.ups j, by rw [Nat.add_comm k j]; exact hb.ups k, h1, h2, rfl⟩)⟩
theorem TestP.up : ∀ {k : Nat} {l : List Tok}, TestP k l → TestP (k + 1) l
  | 0, l, h => h.elim
  | k + 1, l, h => by
    rcases h with h | ⟨a, ha, h⟩ | ⟨a, b, s, ha, hb, h⟩
    · exact Or.inl h
    · exact Or.inr (Or.inl ⟨a, ha.up, h⟩)
    · exact Or.inr (Or.inr ⟨a, b, s, ha.up, hb.up, h⟩)
theorem TestP.ups {k : Nat} {l : List Tok} (h : TestP k l) : ∀ j, TestP (k + j) l
  | 0 => h
  | j + 1 => (h.ups j).up
theorem TestQ.op {a b : List Tok} {s : Nat} (ha : TestQ a) (hb : TestQ b) (h1 : s = 12 ∨ s = 13) : TestQ (a ++ b ++ [(s, 0)]) := by
  obtain ⟨k, ha⟩ := ha
  obtain ⟨j, hb⟩ := hb
  exact ⟨k + j + 1, Or.inr (Or.inr ⟨a, b, s, ha.ups j, by rw [Nat.add_comm k j]; exact hb.ups k, h1, rfl⟩)⟩
theorem TestQ.cm {a b : List Tok} {s : Nat} (ha : SumQ a) (hb : SumQ b) (h1 : 6 ≤ s) (h2 : s ≤ 10) : TestQ (a ++ b ++ [(s, 0)]) := by
  obtain ⟨k, ha⟩ := ha
  obtain ⟨j, hb⟩ := hb
  exact ⟨1, Or.inl ⟨k + j, a, b, s, ha.ups j, by rw [Nat.add_comm k j]; exact hb.ups k, h1, h2, rfl⟩⟩
theorem TestQ.no {a : List Tok} (ha : TestQ a) : TestQ (a ++ [(11, 0)]) := by
  obtain ⟨k, ha⟩ := ha
  exact ⟨k + 1, Or.inr (Or.inl ⟨a, ha, rfl⟩)⟩
theorem TesW.and {w : Bool} {l f : List Tok} (h : TesW w l) (hf : TestQ f) : TesW w (l ++ f ++ [(12, 0)]) := by
  rcases h with ⟨e, h⟩ | ⟨e, u, v, rfl, hu, hv⟩
  · exact Or.inl ⟨e, h.op hf (Or.inl rfl)⟩
  · exact Or.inr ⟨e, u, v ++ f ++ [(12, 0)], by simp only [List.append_assoc], hu, hv.op hf (Or.inl rfl)⟩
theorem TesW.fin {w : Bool} {l : List Tok} (h : TesW w l) : TestQ (l ++ orT w) := by
  rcases h with ⟨e, h⟩ | ⟨e, u, v, rfl, hu, hv⟩
  · rw [e]
    exact (List.append_nil l).symm ▸ h
  · rw [e]
    exact hu.op hv (Or.inr rfl)
theorem OkR.bind {p m p' m' : Nat} {P P' : List Tok → Prop} {R : Rs} {f : Nat × Nat × List Tok → Rs} (h : OkR B n p m P R) (hf : ∀ r, (At B n r.1 ∧ p + r.2.2.length ≤ r.1 ∧ p < r.1) → (m + pushN r.2.2 ≤ r.2.1 ∧ r.2.1 ≤ 60) → P r.2.2 → OkR B n p' m' P' (f r)) : OkR B n p' m' P' (sbind R f) := by
  cases R with
  | inl e => exact ⟨fun e' he => h.1 e' he, fun r hr => by cases hr⟩
  | inr r =>
    obtain ⟨a, b, c⟩ := h.2 r rfl
    exact hf r a b c
theorem OkR.bad {p m e : Nat} {P : List Tok → Prop} (h1 : 1 ≤ e) (h2 : e ≤ 1 + 8 * n + 5) : OkR B n p m P (.inl e) := ⟨fun e' he => by obtain rfl := Sum.inl.inj he; exact ⟨h1, h2⟩, fun r hr => by cases hr⟩
theorem OkR.good {p m : Nat} {P : List Tok → Prop} {r : Nat × Nat × List Tok} (h1 : At B n r.1 ∧ p + r.2.2.length ≤ r.1 ∧ p < r.1) (h2 : m + pushN r.2.2 ≤ r.2.1 ∧ r.2.1 ≤ 60) (h3 : P r.2.2) : OkR B n p m P (.inr r) := ⟨fun e' he => (by cases he), fun r' hr => by obtain rfl := Sum.inr.inj hr; exact ⟨h1, h2, h3⟩⟩
theorem kd_lt {p k : Nat} (h : kdT B n p = k) (hk : k ≠ 0) : p < n := by
  have := mt kd0_iff.mpr (show ¬ kdT B n p = 0 by omega)
  omega
theorem vl2 {p : Nat} (h : kdT B n p = 2) : vlT B n p = -1 ∨ rng (vlT B n p) 0 99999 := by
  obtain ⟨a, b⟩ := kd2 h
  rw [(kd2' (B := B) a b).2.1]
  split
  · exact Or.inl rfl
  · rename_i h5
    have rge := rn_ge isD B n p
    have dg : ∀ i, i < rn isD B n p - p → isD (B (p + i)) = true := fun i hi => (rn_all (P := isD) (B := B) (n := n) (p := p) (i := p + i) (by omega) (by omega)).2
    have := dgF_lt (B := B) (p := p) (k := rn isD B n p - p) dg
    have p5 : 10 ^ (rn isD B n p - p) ≤ 10 ^ 5 := Nat.pow_le_pow_right (by omega) (by omega)
    refine Or.inr ?_
    unfold rng
    rw [ti_nI (by omega)]
    omega
theorem valR_ok {p m : Nat} (hp : p ≤ n) (hm : m ≤ 60) : OkR B n p m SumQ (valR B n p m) := by
  unfold valR
  have one : ∀ q : Tok, [q].length = 1 := fun _ => rfl
  split
  · rename_i k2
    have lt := kd_lt k2 (by omega)
    split
    · exact OkR.bad (by omega) (by omega)
    · rename_i v1
      split
      · exact OkR.bad (by omega) (by omega)
      · have := nxP_gt (B := B) lt
        refine OkR.good ⟨at_nx hp, by show p + 1 ≤ nxP B n p; omega, this⟩ ⟨by show m + 1 ≤ m + 1; omega, by show m + 1 ≤ 60; omega⟩ ⟨1, Or.inl ⟨_, ?_, rfl⟩⟩
        exact (vl2 k2).elim (fun q => absurd q v1) id
  · split
    · rename_i k1
      have lt := kd_lt k1.1 (by omega)
      split
      · exact OkR.bad (by omega) (by omega)
      · have := nxP_gt (B := B) lt
        obtain ⟨w, hw, e⟩ := of_in (n := 12) k1.2.1 k1.2.2
        refine OkR.good ⟨at_nx hp, by show p + 1 ≤ nxP B n p; omega, this⟩ ⟨by show m + 1 ≤ m + 1; omega, by show m + 1 ≤ 60; omega⟩ ⟨1, Or.inr (Or.inl ⟨w, hw, ?_⟩)⟩
        show [(1, vlT B n p)] = [(1, nI w)]
        rw [e]
    · exact OkR.bad (by omega) (by omega)
theorem opM_r (v : Int32) : opM v = 0 ∨ (4 ≤ opM v ∧ opM v ≤ 5) := by unfold opM; split <;> (try split) <;> omega
theorem opA_r (v : Int32) : opA v = 0 ∨ (2 ≤ opA v ∧ opA v ≤ 3) := by unfold opA; split <;> (try split) <;> omega
theorem cmO_r (v : Int32) : cmO v = 0 ∨ (6 ≤ cmO v ∧ cmO v ≤ 10) := by unfold cmO; split <;> (try split) <;> (try split) <;> (try split) <;> (try split) <;> omega
theorem len3 (a b : List Tok) (q : Tok) : (a ++ b ++ [q]).length = a.length + b.length + 1 := by
  simp only [List.length_append, List.length_cons, List.length_nil]
theorem push3 (a b : List Tok) {s : Nat} (hs : 2 ≤ s) : pushN (a ++ b ++ [(s, 0)]) = pushN a + pushN b := by
  rw [pushN_app, pushN_app, pushN_op hs]
  rfl
theorem terL_ok {p0 m0 : Nat} : ∀ {k p m : Nat} {l : List Tok}, At B n p → n < p + k → p0 + l.length ≤ p → p0 < p → m0 + pushN l ≤ m → m ≤ 60 → SumQ l → OkR B n p0 m0 SumQ (terL B n k p m l)
  | 0, p, m, l, a, f, _, _, _, _, _ => by have := a.1; omega
  | k + 1, p, m, l, a, f, h1, h2, h3, h4, h5 => by
    unfold terL
    split
    · rename_i c
      have lt := kd_lt c.1 (by omega)
      have gt := nxP_gt (B := B) lt
      refine OkR.bind (valR_ok (B := B) (at_nx a.1).1 h4) (fun r ra rm rs => terL_ok ra.1 (by omega) ?_ (by omega) ?_ rm.2 ?_)
      · rw [len3]
        omega
      · have := opM_r (vlT B n p)
        rw [push3 _ _ (by omega)]
        omega
      · have := opM_r (vlT B n p)
        exact h5.op rs (by omega) (by omega)
    · exact OkR.good ⟨a, h1, h2⟩ ⟨h3, h4⟩ h5
theorem terR_ok {k p m : Nat} (hp : p ≤ n) (hf : n < p + k) (hm : m ≤ 60) : OkR B n p m SumQ (terR B n k p m) := OkR.bind (valR_ok hp hm) (fun r ra rm rs => terL_ok ra.1 (by omega) ra.2.1 ra.2.2 rm.1 rm.2 rs)
theorem suL_ok {p0 m0 : Nat} : ∀ {k p m : Nat} {l : List Tok}, At B n p → n < p + k → p0 + l.length ≤ p → p0 < p → m0 + pushN l ≤ m → m ≤ 60 → SumQ l → OkR B n p0 m0 SumQ (suL B n k p m l)
  | 0, p, m, l, a, f, _, _, _, _, _ => by have := a.1; omega
  | k + 1, p, m, l, a, f, h1, h2, h3, h4, h5 => by
    unfold suL
    split
    · rename_i c
      have lt := kd_lt c.1 (by omega)
      have gt := nxP_gt (B := B) lt
      refine OkR.bind (terR_ok (B := B) (at_nx a.1).1 (by omega) h4) (fun r ra rm rs => suL_ok ra.1 (by omega) ?_ (by omega) ?_ rm.2 ?_)
      · rw [len3]
        omega
      · have := opA_r (vlT B n p)
        rw [push3 _ _ (by omega)]
        omega
      · have := opA_r (vlT B n p)
        exact h5.op rs (by omega) (by omega)
    · exact OkR.good ⟨a, h1, h2⟩ ⟨h3, h4⟩ h5
theorem suR_ok {k p m : Nat} (hp : p ≤ n) (hf : n < p + k) (hm : m ≤ 60) : OkR B n p m SumQ (suR B n k p m) := OkR.bind (terR_ok hp hf hm) (fun r ra rm rs => suL_ok ra.1 (by omega) ra.2.1 ra.2.2 rm.1 rm.2 rs)
theorem cmR_ok {k p m : Nat} (hp : p ≤ n) (hf : n < p + k) (hm : m ≤ 60) : OkR B n p m TestQ (cmR B n k p m) := by
  refine OkR.bind (suR_ok hp hf hm) (fun a aa am as => ?_)
  have an := aa.1.1
  split
  · rename_i c
    have lt := kd_lt c.1 (by omega)
    have gt := nxP_gt (B := B) lt
    split
    · exact OkR.bad (by omega) (by omega)
    · refine OkR.bind (suR_ok (B := B) (at_nx an).1 (by omega) (by omega)) (fun b ba bm bs => OkR.good ⟨ba.1, ?_, ?_⟩ ⟨?_, bm.2⟩ ?_)
      · rw [len3]
        show p + (a.2.2.length + b.2.2.length + 1) ≤ b.1
        omega
      · show p < b.1
        omega
      · have := cmO_r (vlT B n a.1)
        rw [push3 _ _ (by omega)]
        show m + (pushN a.2.2 + pushN b.2.2) ≤ b.2.1
        omega
      · have := cmO_r (vlT B n a.1)
        exact TestQ.cm as bs (by omega) (by omega)
  · exact OkR.bad (by omega) (by omega)
theorem orT_l (w : Bool) : (orT w).length ≤ 1 ∧ pushN (orT w) = 0 := by
  cases w <;> decide
theorem tsF_ok : ∀ {k : Nat}, (∀ {d p m : Nat} {w : Bool} {l : List Tok}, p ≤ n → n < p + k → m ≤ 60 → OkR B n p m TestQ (tsF B n k true d p m w l)) ∧ (∀ {p0 m0 d p m : Nat} {w : Bool} {l : List Tok}, At B n p → n < p + k → p0 + l.length + (orT w).length ≤ p → p0 < p → m0 + pushN l ≤ m → m ≤ 60 → TesW w l → OkR B n p0 m0 TestQ (tsF B n k false d p m w l))
  | 0 => ⟨fun hp hf _ => by omega, fun a f _ _ _ _ _ => by have := a.1; omega⟩
  | k + 1 => by
    obtain ⟨I1, I2⟩ := tsF_ok (k := k)
    refine ⟨fun {d p m w l} hp hf hm => ?_, fun {p0 m0 d p m w l} a f h1 h2 h3 h4 h5 => ?_⟩
    · unfold tsF
      split
      · rename_i c
        have lt := kd_lt c.1 (by omega)
        have gt := nxP_gt (B := B) lt
        split
        · exact OkR.bad (by omega) (by omega)
        · refine OkR.bind (I1 (d := d + 1) (w := false) (l := []) (at_nx hp).1 (by omega) hm) (fun r ra rm rs => OkR.good ⟨ra.1, ?_, ?_⟩ ⟨?_, rm.2⟩ rs.no)
          · show p + (r.2.2 ++ [(11, 0)]).length ≤ r.1
            rw [List.length_append]
            show p + (r.2.2.length + 1) ≤ r.1
            omega
          · show p < r.1
            omega
          · show m + pushN (r.2.2 ++ [(11, 0)]) ≤ r.2.1
            rw [pushN_app, pushN_op (by omega)]
            omega
      · split
        · rename_i c
          have lt := kd_lt c.1 (by omega)
          have gt := nxP_gt (B := B) lt
          split
          · exact OkR.bad (by omega) (by omega)
          · have J : OkR B n (nxP B n p) m TestQ (sbind (tsF B n k true (d + 1) (nxP B n p) m false []) (fun r => tsF B n k false (d + 1) r.1 r.2.1 false r.2.2)) := OkR.bind (I1 (d := d + 1) (w := false) (l := []) (at_nx hp).1 (by omega) hm) (fun r ra rm rs => I2 ra.1 (by omega) (by show nxP B n p + r.2.2.length + 0 ≤ r.1; omega) ra.2.2 rm.1 rm.2 (Or.inl ⟨rfl, rs⟩))
            refine OkR.bind J (fun r ra rm rs => ?_)
            have rn := ra.1.1
            split
            · rename_i c2
              have lt2 := kd_lt c2.1 (by omega)
              have gt2 := nxP_gt (B := B) lt2
              refine OkR.good ⟨at_nx rn, ?_, ?_⟩ rm rs
              · show p + r.2.2.length ≤ nxP B n r.1
                omega
              · show p < nxP B n r.1
                omega
            · exact OkR.bad (by omega) (by omega)
        · exact cmR_ok hp (by omega) hm
    · have ol := orT_l w
      unfold tsF
      split
      · rename_i c
        have lt := kd_lt c.1 (by omega)
        have gt := nxP_gt (B := B) lt
        refine OkR.bind (I1 (d := d) (w := false) (l := []) (at_nx a.1).1 (by omega) h4) (fun r ra rm rs => I2 ra.1 (by omega) ?_ (by omega) ?_ rm.2 (h5.and rs))
        · rw [len3]
          omega
        · rw [push3 _ _ (by omega)]
          omega
      · split
        · rename_i c
          have lt := kd_lt c.1 (by omega)
          have gt := nxP_gt (B := B) lt
          refine OkR.bind (I1 (d := d) (w := false) (l := []) (at_nx a.1).1 (by omega) h4) (fun r ra rm rs => I2 ra.1 (by omega) ?_ (by omega) ?_ rm.2 (Or.inr ⟨rfl, _, _, rfl, h5.fin, rs⟩))
          · rw [List.length_append, List.length_append]
            show p0 + (l.length + (orT w).length + r.2.2.length) + 1 ≤ r.1
            omega
          · rw [pushN_app, pushN_app, ol.2]
            omega
        · refine OkR.good ⟨a, ?_, h2⟩ ⟨?_, h4⟩ h5.fin
          · show p0 + (l ++ orT w).length ≤ p
            rw [List.length_append]
            omega
          · show m0 + pushN (l ++ orT w) ≤ m
            rw [pushN_app, ol.2]
            omega
theorem tsR_ok {k p m : Nat} (hp : p ≤ n) (hf : n < p + k) (hm : m ≤ 60) : OkR B n p m TestQ (tsR B n k p m) := OkR.bind (tsF_ok.1 hp hf hm) (fun r ra rm rs => tsF_ok.2 ra.1 (by omega) (by show p + r.2.2.length + 0 ≤ r.1; omega) ra.2.2 rm.1 rm.2 (Or.inl ⟨rfl, rs⟩))
end TP
