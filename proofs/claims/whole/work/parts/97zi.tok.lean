/-! ===== tokens, by their places ===== -/
def isL (x : Int32) : Bool := decide (97 ≤ x.toInt ∧ x.toInt ≤ 122)
def isD (x : Int32) : Bool := decide (48 ≤ x.toInt ∧ x.toInt ≤ 57)
def isBl (x : Int32) : Bool := x == 32
def runF (P : Int32 → Bool) (B : Nat → Int32) (n : Nat) : Nat → Nat → Nat
  | 0, p => p
  | k + 1, p => if p < n ∧ P (B p) = true then runF P B n k (p + 1) else p
/-- how far P goes on from p -/
def rn (P : Int32 → Bool) (B : Nat → Int32) (n p : Nat) : Nat := runF P B n n p
def skp (B : Nat → Int32) (n p : Nat) : Nat := rn isBl B n p
def wdeB (B : Nat → Int32) (n p : Nat) : Bool := decide ((B p = 60 ∨ B p = 62) ∧ p + 1 < n ∧ B (p + 1) = 61)
def nxT (B : Nat → Int32) (n p : Nat) : Nat := if n ≤ p then n else if isL (B p) = true then rn isL B n p else if isD (B p) = true then rn isD B n p else if wdeB B n p = true then p + 2 else p + 1
def kdT (B : Nat → Int32) (n p : Nat) : Nat := if n ≤ p then 0 else if isL (B p) = true then 1 else if isD (B p) = true then 2 else 3
def ltr (B : Nat → Int32) (p : Nat) : Nat → List Int32
  | 0 => []
  | k + 1 => ltr B p k ++ [B (p + k)]
def dgF (B : Nat → Int32) (p : Nat) : Nat → Nat
  | 0 => 0
  | k + 1 => dgF B p k * 10 + ((B (p + k)).toInt - 48).toNat
def wds : List (List Int32) := [[108, 111, 110, 103], [119, 105, 100, 116, 104], [104, 101, 105, 103, 104, 116], [103, 114, 111, 117, 110, 100], [119, 111, 114, 116, 104], [119, 101, 108, 108, 115], [114, 105, 118, 101, 114], [100, 101, 101, 112], [108, 105, 107, 101], [111, 119, 110], [121, 101, 97, 114], [116, 119, 111], [102, 97, 114], [109, 97, 121], [110, 111, 116], [106, 111, 105, 110], [119, 97, 110, 116], [105, 102], [97, 110, 100], [111, 114], [119, 105, 100, 101], [119, 101, 108, 108], [104, 111, 117, 115, 101]]
def fdW : List (List Int32) → List Int32 → Nat → Int32
  | [], _, _ => -1
  | w :: ws, l, k => if l = w then nI k else fdW ws l (k + 1)
def wix (l : List Int32) : Int32 := fdW wds l 0
def vlT (B : Nat → Int32) (n p : Nat) : Int32 := if n ≤ p then -1 else if isL (B p) = true then wix (ltr B p (rn isL B n p - p)) else if isD (B p) = true then (if 5 < rn isD B n p - p then -1 else nI (dgF B p (rn isD B n p - p))) else if wdeB B n p = true then (if B p = 60 then 256 else 257) else B p
/-- the place of the next token -/
def nxP (B : Nat → Int32) (n p : Nat) : Nat := skp B n (nxT B n p)
def ptk (B : Nat → Int32) (n : Nat) : Nat → Nat
  | 0 => skp B n 0
  | i + 1 => nxP B n (ptk B n i)
section TK
variable {P : Int32 → Bool} {B : Nat → Int32} {n p : Nat}
theorem runF_fuel : ∀ (k k' p : Nat), n ≤ p + k → n ≤ p + k' → runF P B n k p = runF P B n k' p
  | 0, 0, _, _, _ => rfl
  | 0, k' + 1, p, h, _ => by
    simp only [runF]
    rw [if_neg (by omega)]
  | k + 1, 0, p, _, h => by
    simp only [runF]
    rw [if_neg (by omega)]
  | k + 1, k' + 1, p, h, h' => by
    simp only [runF]
    rw [runF_fuel k k' (p + 1) (by omega) (by omega)]
theorem rn_stop (h : ¬ (p < n ∧ P (B p) = true)) : rn P B n p = p := by
  unfold rn
  rw [runF_fuel n (n + 1) p (by omega) (by omega), runF, if_neg h]
theorem rn_step (h : p < n) (h2 : P (B p) = true) : rn P B n p = rn P B n (p + 1) := by
  unfold rn
  rw [runF_fuel n (n + 1) p (by omega) (by omega), runF, if_pos ⟨h, h2⟩]
theorem rn_spec : ∀ (k p : Nat), n ≤ p + k → p ≤ rn P B n p ∧ (p ≤ n → rn P B n p ≤ n) ∧ (∀ i, p ≤ i → i < rn P B n p → i < n ∧ P (B i) = true) ∧ ¬ (rn P B n p < n ∧ P (B (rn P B n p)) = true)
  | 0, p, h => by
    rw [rn_stop (by omega)]
    exact ⟨Nat.le_refl _, fun z => z, fun i h1 h2 => by omega, fun z => by omega⟩
  | k + 1, p, h => by
    by_cases c : p < n ∧ P (B p) = true
    · rw [rn_step c.1 c.2]
      obtain ⟨a1, a2, a3, a4⟩ := rn_spec k (p + 1) (by omega)
      refine ⟨by omega, fun _ => a2 (by omega), fun i h1 h2 => ?_, a4⟩
      by_cases e : i = p
      · rw [e]
        exact c
      · exact a3 i (by omega) h2
    · rw [rn_stop c]
      exact ⟨Nat.le_refl _, fun z => z, fun i h1 h2 => by omega, c⟩
theorem rn_ge (P : Int32 → Bool) (B : Nat → Int32) (n p : Nat) : p ≤ rn P B n p := (rn_spec n p (by omega)).1
theorem rn_le (h : p ≤ n) : rn P B n p ≤ n := (rn_spec n p (by omega)).2.1 h
theorem rn_all {i : Nat} (h1 : p ≤ i) (h2 : i < rn P B n p) : i < n ∧ P (B i) = true := (rn_spec n p (by omega)).2.2.1 i h1 h2
theorem rn_end (P : Int32 → Bool) (B : Nat → Int32) (n p : Nat) : ¬ (rn P B n p < n ∧ P (B (rn P B n p)) = true) := (rn_spec n p (by omega)).2.2.2
theorem rn_at {q : Nat} (h : p ≤ q) (ha : ∀ i, p ≤ i → i < q → i < n ∧ P (B i) = true) (he : ¬ (q < n ∧ P (B q) = true)) : rn P B n p = q := by
  have s := rn_spec (P := P) (B := B) (n := n) n p (by omega)
  rcases Nat.lt_trichotomy (rn P B n p) q with c | c | c
  · exact absurd (ha _ s.1 c) s.2.2.2
  · exact c
  · exact absurd (s.2.2.1 q h c) he
theorem skp_skp (B : Nat → Int32) (n p : Nat) : skp B n (skp B n p) = skp B n p := rn_stop (rn_end isBl B n p)
theorem skp_ge (B : Nat → Int32) (n p : Nat) : p ≤ skp B n p := rn_ge _ _ _ _
theorem skp_le (h : p ≤ n) : skp B n p ≤ n := rn_le h
/-- a place where a token stands, or the end -/
def At (B : Nat → Int32) (n p : Nat) : Prop := p ≤ n ∧ skp B n p = p
theorem At.nb (h : At B n p) (hp : p < n) : ¬ B p = 32 := fun e => by
  have := rn_end isBl B n p
  have h2 : rn isBl B n p = p := h.2
  rw [h2] at this
  exact this ⟨hp, by unfold isBl; rw [e]; rfl⟩
theorem at_skp (h : p ≤ n) : At B n (skp B n p) := ⟨skp_le h, skp_skp B n p⟩
theorem at_end (B : Nat → Int32) (n : Nat) : At B n n := ⟨Nat.le_refl _, rn_stop (by omega)⟩
theorem nxT_gt (h : p < n) : p < nxT B n p ∧ nxT B n p ≤ n := by
  unfold nxT
  rw [if_neg (by omega)]
  by_cases c1 : isL (B p) = true
  · rw [if_pos c1, rn_step h c1]
    exact ⟨by have := rn_ge isL B n (p + 1); omega, rn_le (by omega)⟩
  · rw [if_neg c1]
    by_cases c2 : isD (B p) = true
    · rw [if_pos c2, rn_step h c2]
      exact ⟨by have := rn_ge isD B n (p + 1); omega, rn_le (by omega)⟩
    · rw [if_neg c2]
      by_cases c3 : wdeB B n p = true
      · rw [if_pos c3]
        unfold wdeB at c3
        rw [decide_eq_true_eq] at c3
        omega
      · rw [if_neg c3]
        omega
theorem nxT_end : nxT B n n = n := by
  unfold nxT
  rw [if_pos (Nat.le_refl _)]
theorem nxT_le (h : p ≤ n) : nxT B n p ≤ n := by
  by_cases c : p < n
  · exact (nxT_gt c).2
  · rw [show p = n by omega, nxT_end]
    exact Nat.le_refl _
theorem at_nx (h : p ≤ n) : At B n (nxP B n p) := at_skp (nxT_le h)
theorem nxP_gt (h : p < n) : p < nxP B n p := by
  have := (nxT_gt (B := B) h).1
  have := skp_ge B n (nxT B n p)
  unfold nxP
  omega
theorem nxP_end : nxP B n n = n := by
  unfold nxP
  rw [nxT_end]
  exact (at_end B n).2
theorem at_ptk (B : Nat → Int32) (n : Nat) : ∀ i, At B n (ptk B n i)
  | 0 => at_skp (Nat.zero_le _)
  | i + 1 => at_nx (at_ptk B n i).1
theorem ptk_ge (B : Nat → Int32) (n : Nat) : ∀ i, ptk B n i = n ∨ i ≤ ptk B n i
  | 0 => Or.inr (Nat.zero_le _)
  | i + 1 => by
    show nxP B n (ptk B n i) = n ∨ i + 1 ≤ nxP B n (ptk B n i)
    rcases ptk_ge B n i with e | e
    · left
      rw [e, nxP_end]
    · by_cases c : ptk B n i < n
      · have := nxP_gt (B := B) c
        right
        omega
      · left
        rw [show ptk B n i = n by have := (at_ptk B n i).1; omega, nxP_end]
end TK
/-! words -/
theorem fdW_some : ∀ (ws : List (List Int32)) (l : List Int32) (j k : Nat), j + ws.length < 2147483648 → k < 2147483648 → fdW ws l j = nI k → ∃ i, k = j + i ∧ ws[i]? = some l
  | [], l, j, k, _, hk, h => by
    simp only [fdW] at h
    exact absurd h.symm (nI_ne_neg hk)
  | w :: ws, l, j, k, hj, hk, h => by
    simp only [fdW] at h
    simp only [List.length_cons] at hj
    by_cases c : l = w
    · rw [if_pos c, nI_eq_iff (by omega) hk] at h
      exact ⟨0, by omega, by rw [c]; rfl⟩
    · rw [if_neg c] at h
      obtain ⟨i, h1, h2⟩ := fdW_some ws l (j + 1) k (by omega) hk h
      exact ⟨i + 1, by omega, h2⟩
theorem fdW_rng : ∀ (ws : List (List Int32)) (l : List Int32) (j : Nat), fdW ws l j = -1 ∨ ∃ i, i < ws.length ∧ fdW ws l j = nI (j + i)
  | [], l, j => Or.inl rfl
  | w :: ws, l, j => by
    simp only [fdW]
    by_cases c : l = w
    · rw [if_pos c]
      exact Or.inr ⟨0, by simp, rfl⟩
    · rw [if_neg c]
      rcases fdW_rng ws l (j + 1) with e | ⟨i, h1, h2⟩
      · exact Or.inl e
      · exact Or.inr ⟨i + 1, by simp; omega, by rw [h2, Nat.add_assoc, Nat.add_comm 1 i]⟩
theorem wix_self : ∀ k, k < 23 → wix (wds.getD k []) = nI k := by decide +kernel
theorem wix_iff {l : List Int32} {k : Nat} (hk : k < 23) : wix l = nI k ↔ l = wds.getD k [] := by
  constructor
  · intro h
    obtain ⟨i, h1, h2⟩ := fdW_some wds l 0 k (by decide) (by omega) h
    rw [Nat.zero_add] at h1
    subst h1
    rw [List.getD_eq_getElem?_getD, h2]
    rfl
  · intro h
    rw [h, wix_self k hk]
theorem wix_rng (l : List Int32) : wix l = -1 ∨ ∃ k, k < 23 ∧ wix l = nI k := by
  rcases fdW_rng wds l 0 with e | ⟨i, h1, h2⟩
  · exact Or.inl e
  · exact Or.inr ⟨i, h1, by rw [Nat.zero_add] at h2; exact h2⟩
/-- letters packed -/
def pkL : List Int32 → Nat
  | [] => 0
  | x :: l => x.toInt.toNat * 256 ^ l.length + pkL l
theorem pkL_lt : ∀ (l : List Int32), (∀ x ∈ l, 97 ≤ x.toInt ∧ x.toInt ≤ 122) → pkL l < 256 ^ l.length
  | [], _ => by simp [pkL]
  | x :: l, h => by
    have a := pkL_lt l (fun z hz => h z (List.mem_cons_of_mem _ hz))
    have b := h x List.mem_cons_self
    simp only [pkL, List.length_cons, Nat.pow_succ]
    have : x.toInt.toNat * 256 ^ l.length + 256 ^ l.length ≤ 256 ^ l.length * 256 := by
      rw [← Nat.succ_mul, Nat.mul_comm]
      exact Nat.mul_le_mul_left _ (by omega)
    omega
theorem pkL_ge : ∀ (l : List Int32), (∀ x ∈ l, 97 ≤ x.toInt ∧ x.toInt ≤ 122) → l ≠ [] → 256 ^ (l.length - 1) ≤ pkL l
  | [], _, h => absurd rfl h
  | x :: l, h, _ => by
    have b := h x List.mem_cons_self
    simp only [pkL, List.length_cons, Nat.add_sub_cancel]
    have : 1 * 256 ^ l.length ≤ x.toInt.toNat * 256 ^ l.length := Nat.mul_le_mul_right _ (by omega)
    omega
theorem pkL_len {l l' : List Int32} (h : ∀ x ∈ l, 97 ≤ x.toInt ∧ x.toInt ≤ 122) (h' : ∀ x ∈ l', 97 ≤ x.toInt ∧ x.toInt ≤ 122) (e : pkL l = pkL l') : l.length ≤ l'.length := by
  by_cases c : l = []
  · rw [c]
    exact Nat.zero_le _
  · have a := pkL_ge l h c
    have b := pkL_lt l' h'
    refine Classical.byContradiction (fun q => ?_)
    have : 256 ^ l'.length ≤ 256 ^ (l.length - 1) := Nat.pow_le_pow_right (by omega) (by omega)
    omega
theorem pkL_inj : ∀ (l l' : List Int32), (∀ x ∈ l, 97 ≤ x.toInt ∧ x.toInt ≤ 122) → (∀ x ∈ l', 97 ≤ x.toInt ∧ x.toInt ≤ 122) → pkL l = pkL l' → l = l' := by
  intro l
  induction l with
  | nil =>
    intro l' _ h' e
    have := pkL_len h' (fun x hx => by cases hx) e.symm
    exact (List.length_eq_zero_iff.mp (Nat.le_zero.mp this)).symm
  | cons x l ih =>
    intro l' h h' e
    have len : (x :: l).length = l'.length := Nat.le_antisymm (pkL_len h h' e) (pkL_len h' h e.symm)
    cases l' with
    | nil => simp at len
    | cons x' l' =>
      simp only [List.length_cons, Nat.add_right_cancel_iff] at len
      have a := pkL_lt l (fun z hz => h z (List.mem_cons_of_mem _ hz))
      have a' := pkL_lt l' (fun z hz => h' z (List.mem_cons_of_mem _ hz))
      have b := h x List.mem_cons_self
      have b' := h' x' List.mem_cons_self
      simp only [pkL, len] at e a
      have q : x.toInt.toNat = x'.toInt.toNat := by
        have m : 0 < 256 ^ l'.length := Nat.pow_pos (by omega)
        have d1 : (x.toInt.toNat * 256 ^ l'.length + pkL l) / 256 ^ l'.length = x.toInt.toNat := by
          rw [Nat.add_comm, Nat.add_mul_div_right _ _ m, Nat.div_eq_of_lt a, Nat.zero_add]
        have d2 : (x'.toInt.toNat * 256 ^ l'.length + pkL l') / 256 ^ l'.length = x'.toInt.toNat := by
          rw [Nat.add_comm, Nat.add_mul_div_right _ _ m, Nat.div_eq_of_lt a', Nat.zero_add]
        rw [← d1, ← d2, e]
      have ex : x = x' := by
        rw [ti_eq]
        omega
      subst ex
      rw [ih l' (fun z hz => h z (List.mem_cons_of_mem _ hz)) (fun z hz => h' z (List.mem_cons_of_mem _ hz)) (by omega)]
theorem pkL_app : ∀ (l : List Int32) (x : Int32), pkL (l ++ [x]) = pkL l * 256 + x.toInt.toNat
  | [], x => by simp [pkL]
  | z :: l, x => by
    simp only [List.cons_append, pkL, List.length_append, List.length_cons, List.length_nil]
    rw [pkL_app l x, Nat.pow_succ, Nat.add_mul, Nat.mul_assoc]
    omega
theorem ltr_mem {B : Nat → Int32} {p : Nat} : ∀ {k : Nat}, (∀ i, i < k → isL (B (p + i)) = true) → ∀ x ∈ ltr B p k, 97 ≤ x.toInt ∧ x.toInt ≤ 122
  | 0, _, x, hx => by cases hx
  | k + 1, h, x, hx => by
    simp only [ltr, List.mem_append, List.mem_singleton] at hx
    rcases hx with hx | hx
    · exact ltr_mem (fun i hi => h i (by omega)) x hx
    · have := h k (by omega)
      rw [hx]
      unfold isL at this
      rw [decide_eq_true_eq] at this
      exact this
theorem ltr_len (B : Nat → Int32) (p : Nat) : ∀ k, (ltr B p k).length = k
  | 0 => rfl
  | k + 1 => by
    simp only [ltr, List.length_append, List.length_cons, List.length_nil]
    rw [ltr_len B p k]
theorem wds_ok : ∀ k, k < 23 → (∀ x ∈ wds.getD k [], 97 ≤ x.toInt ∧ x.toInt ≤ 122) ∧ 1 ≤ (wds.getD k []).length ∧ (wds.getD k []).length ≤ 6 := by decide +kernel
/-! numbers -/
theorem dgF_lt {B : Nat → Int32} {p : Nat} : ∀ {k : Nat}, (∀ i, i < k → isD (B (p + i)) = true) → dgF B p k < 10 ^ k
  | 0, _ => by simp [dgF]
  | k + 1, h => by
    have a := dgF_lt (k := k) (fun i hi => h i (by omega))
    have b := h k (by omega)
    unfold isD at b
    rw [decide_eq_true_eq] at b
    simp only [dgF, Nat.pow_succ]
    omega
theorem dg_step {B : Nat → Int32} {p k : Nat} (hk : k < 5) (h : ∀ i, i < k + 1 → isD (B (p + i)) = true) : nI (dgF B p k) * 10 + B (p + k) - 48 = nI (dgF B p (k + 1)) ∧ 10 * nI (dgF B p k) + B (p + k) - 48 = nI (dgF B p (k + 1)) := by
  have b := h k (by omega)
  unfold isD at b
  rw [decide_eq_true_eq] at b
  obtain ⟨c, hc, e⟩ : ∃ c, c < 58 ∧ B (p + k) = nI c := of_in (by omega) (by omega)
  have c48 : 48 ≤ c := by
    rw [e, ti_nI (by omega)] at b
    omega
  have v : dgF B p (k + 1) = dgF B p k * 10 + c - 48 := by
    simp only [dgF]
    rw [e, ti_nI (by omega)]
    omega
  have e1 : nI (dgF B p k) * 10 = nI (dgF B p k * 10) := nM _ 10
  have e2 : 10 * nI (dgF B p k) = nI (dgF B p k * 10) := by
    rw [show (10 : Int32) * nI (dgF B p k) = nI 10 * nI (dgF B p k) from rfl, nM, Nat.mul_comm]
  rw [e1, e2, e, nA, v, show (48 : Int32) = nI 48 from rfl, nS (by omega)]
  exact ⟨rfl, rfl⟩
/-! what a byte shows as a sign -/
theorem b255 : ∀ k : Nat, k < 256 → ((iI ((k : Int) - 128)) &&& 255).toInt = if 128 ≤ k then (k : Int) - 128 else (k : Int) + 128 := by decide +kernel
theorem and255 {x : Int32} (h : rng x (-128) 127) : (x &&& 255).toInt = if 0 ≤ x.toInt then x.toInt else x.toInt + 256 := by
  unfold rng at h
  obtain ⟨k, hk⟩ : ∃ k : Nat, x.toInt = (k : Int) - 128 := ⟨(x.toInt + 128).toNat, by omega⟩
  have e : x = iI ((k : Int) - 128) := by rw [← hk, iI_ti]
  have := b255 k (by omega)
  rw [← e] at this
  rw [this]
  split <;> split <;> omega
def seeV (B : Nat → Int32) (n p : Nat) : Int32 := if p < n then B p &&& 255 else -1
theorem seeV_is {B : Nat → Int32} {n p c : Nat} (hb : p < n → rng (B p) (-128) 127) (hc : c < 128) : seeV B n p = nI c ↔ p < n ∧ B p = nI c := by
  unfold seeV
  by_cases h : p < n
  · rw [if_pos h, ti_eq, and255 (hb h), ti_eq (x := B p), ti_nI (by omega)]
    have := hb h
    unfold rng at this
    split <;> omega
  · rw [if_neg h]
    exact ⟨fun e => absurd e.symm (nI_ne_neg (by omega)), fun q => absurd q.1 h⟩
theorem seeV_end {B : Nat → Int32} {n p : Nat} (hb : p < n → rng (B p) (-128) 127) : seeV B n p = -1 ↔ ¬ p < n := by
  unfold seeV
  by_cases h : p < n
  · rw [if_pos h, ti_eq, and255 (hb h), tn1]
    have := hb h
    unfold rng at this
    split <;> simp [h] <;> omega
  · rw [if_neg h]
    simp [h]
