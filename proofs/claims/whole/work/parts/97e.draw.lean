/-! ===== draws ===== -/
noncomputable def dN (n : Nat) : Nat := Classical.choose (⟨_, rfl⟩ : ∃ m, m = (n * 1103515245 + 12345) % 2147483648)
theorem dN_def (n : Nat) : dN n = (n * 1103515245 + 12345) % 2147483648 := Classical.choose_spec (⟨_, rfl⟩ : ∃ m, m = (n * 1103515245 + 12345) % 2147483648)
theorem dN_lt (n : Nat) : dN n < 2147483648 := by rw [dN_def]; exact Nat.mod_lt _ (by omega)
theorem bm64 {z : Int} (h1 : -9223372036854775808 ≤ z) (h2 : z < 9223372036854775808) : z.bmod (2 ^ 64) = z := by
  apply Int.bmod_eq_of_le <;> omega
theorem dr_v {n : Nat} (h : n < 2147483648) : ((nI n).toInt64 * 1103515245 + 12345).toInt = ((n * 1103515245 + 12345 : Nat) : Int) := by
  have t1 : (1103515245 : Int64).toInt = 1103515245 := rfl
  have t2 : (12345 : Int64).toInt = 12345 := rfl
  have e1 : ((nI n).toInt64 * 1103515245).toInt = (n : Int) * 1103515245 := by
    rw [Int64.toInt_mul, ti64, ti_nI h, t1]
    exact bm64 (by omega) (by omega)
  rw [Int64.toInt_add, e1, t2, bm64 (by omega) (by omega)]
  omega
theorem i64n {v : Int64} {N : Nat} (hN : N < 9223372036854775808) (h : v.toInt = N) : v.toBitVec.toNat = N := by
  have e : v.toBitVec.toInt = N := h
  rw [BitVec.toInt_eq_toNat_cond] at e
  have := v.toBitVec.isLt
  split at e <;> omega
theorem i64i {v : Int64} {N : Nat} (hN : N < 9223372036854775808) (h : v.toBitVec.toNat = N) : v.toInt = N := by
  show v.toBitVec.toInt = N
  rw [BitVec.toInt_eq_toNat_cond, h, if_pos (by omega)]
theorem i64_32 {v : Int64} {N : Nat} (hN : N < 2147483648) (h : v.toInt = N) : v.toInt32 = nI N := by
  rw [ti_eq, Int64.toInt_toInt32, h, ti_nI hN]
  exact bm32 (by omega) (by omega)
theorem dr_c {n : Nat} (h : n < 2147483648) : ((((nI n).toInt64 * 1103515245) + 12345) &&& 2147483647).toInt32 = nI (dN n) := by
  have v := dr_v h
  generalize (nI n).toInt64 * 1103515245 + 12345 = x at *
  have b1 := i64n (N := n * 1103515245 + 12345) (by omega) v
  refine i64_32 (dN_lt n) (i64i (by have := dN_lt n; omega) ?_)
  rw [Int64.toBitVec_and, BitVec.toNat_and, b1, dN_def]
  exact Nat.and_two_pow_sub_one_eq_mod (n * 1103515245 + 12345) 31
theorem dr_r {n : Nat} (h : n < 2147483648) : (lrm (((nI n).toInt64 * 1103515245) + 12345) 2147483648).toInt = (dN n : Int) := by
  have v := dr_v h
  generalize (nI n).toInt64 * 1103515245 + 12345 = x at *
  have t1 : (2147483648 : Int64).toInt = 2147483648 := rfl
  generalize hN : n * 1103515245 + 12345 = N at *
  have hl : N < 9223372036854775808 := by omega
  have e1 : (x / 2147483648).toInt = ((N / 2147483648 : Nat) : Int) := by
    rw [Int64.toInt_div, v, t1, show (2147483648 : Int) = ((2147483648 : Nat) : Int) from rfl, ← Int.ofNat_tdiv]
    exact bm64 (by omega) (by omega)
  have e2 : (x / 2147483648 * 2147483648).toInt = ((N / 2147483648 * 2147483648 : Nat) : Int) := by
    rw [Int64.toInt_mul, e1, t1, bm64 (by omega) (by omega)]
    omega
  unfold lrm
  rw [dN_def, Int64.toInt_sub, v, e2, bm64 (by omega) (by omega), hN]
  omega
theorem dr_d {v : Int64} {n : Nat} (hn : n < 2147483648) (h : v.toInt = n) : (v / 65536).toInt32 = nI (n / 65536) := by
  have t1 : (65536 : Int64).toInt = 65536 := rfl
  refine i64_32 (by omega) ?_
  rw [Int64.toInt_div, h, t1, show (65536 : Int) = ((65536 : Nat) : Int) from rfl, ← Int.ofNat_tdiv]
  exact bm64 (by omega) (by omega)
section DR
variable {G : GG} {d : Nat} {h : HP} {s y : Nat} {Q : Option Value → HP → Prop}
theorem s_draw (k : Kd G h s 6) {n : Nat} (hn : n < 2147483648) (e : hI h s 4 = nI n) (hQ : Q (some (.int (nI (dN n / 65536)))) (sI h s 4 (nI (dN n)))) : Cal G d mX6_draw [.ref s] h Q := by
  refine e_X6_draw ⟨k, ?_⟩
  rw [e, dr_c hn, hI_eq]
  have := dN_lt n
  rw [show nI (dN n) / 65536 = nI (dN n / 65536) from nD (m := 65536) (by omega) (by omega)]
  exact hQ
theorem r_draw (M : MdSh G h y) {n : Nat} (hn : n < 2147483648) (e : said h y 4 = nI n) (hQ : Q (some (.int (nI (dN n / 65536)))) (sI h (y + 13) 4 (nI (dN n)))) : Cal G d mX12_draw [.ref y] h Q := by
  obtain ⟨m1, m2, m3⟩ := M.sd
  have e' : hI h (y + 13) 4 = nI n := e
  refine e_X12_draw ⟨M.1, y + 13, m1, m2, by rw [m3]; exact vin_nI (k := 4) (by omega) (by omega), by rw [m3]; exact vin_nI (k := 4) (by omega) (by omega), ?_⟩
  rw [e', i64_32 (dN_lt n) (dr_r hn), dr_d (dN_lt n) (dr_r hn)]
  exact hQ
/-- the one with so many before it -/
def oaF (p : Nat → Bool) : Nat → Nat → Nat → Option Nat
  | _, _, 0 => none
  | l, i, n + 1 => if p i then (if l = 0 then some i else oaF p (l - 1) (i + 1) n) else oaF p l (i + 1) n
theorem oaF_congr {p q : Nat → Bool} : ∀ (n l i : Nat), (∀ j, i ≤ j → j < i + n → p j = q j) → oaF p l i n = oaF q l i n
  | 0, _, _, _ => rfl
  | n + 1, l, i, h => by
    simp only [oaF]
    rw [h i (by omega) (by omega), oaF_congr n (l - 1) (i + 1) (fun j h1 h2 => h j (by omega) (by omega)), oaF_congr n l (i + 1) (fun j h1 h2 => h j (by omega) (by omega))]
theorem oaF_some {p : Nat → Bool} : ∀ (n l i : Nat), l < cntF p i n → ∃ t, oaF p l i n = some t ∧ i ≤ t ∧ t < i + n ∧ p t = true
  | 0, l, i, h => by
    simp only [cntF] at h
    omega
  | n + 1, l, i, h => by
    simp only [cntF] at h
    simp only [oaF]
    by_cases c : p i = true
    · rw [if_pos c]
      rw [if_pos c] at h
      by_cases l0 : l = 0
      · rw [if_pos l0]
        exact ⟨i, rfl, by omega, by omega, c⟩
      · rw [if_neg l0]
        obtain ⟨t, h1, h2, h3, h4⟩ := oaF_some (p := p) n (l - 1) (i + 1) (by omega)
        exact ⟨t, h1, by omega, by omega, h4⟩
    · rw [if_neg c]
      rw [if_neg c] at h
      obtain ⟨t, h1, h2, h3, h4⟩ := oaF_some (p := p) n l (i + 1) (by omega)
      exact ⟨t, h1, by omega, by omega, h4⟩
theorem s_outermostAt (hd : 2 ≤ d) (S : StSh G h s) {v : Nat} (hv : v < 2147483648) (hc : 0 < cntF (outB (tg h s)) 0 30) (hQ : Q (some (.int (onI (oaF (outB (tg h s)) (v % cntF (outB (tg h s)) 0 30) 0 30)))) h) : Cal G d mX6_outermostAt [.ref s, .int (nI v)] h Q := by
  have cl := cntF_le (outB (tg h s)) 30 0
  have loop : ∀ n i l, i + n = 30 → l < 2147483648 → Q (some (.int (onI (oaF (outB (tg h s)) l i n)))) h → Ex G d mX6_outermostAt 20 [(0, .ref s), (1, .int (nI v)), (2, .int (nI (cntF (outB (tg h s)) 0 30))), (3, .int (nI l)), (4, .int (nI i))] [] h Q := by
    intro n
    induction n with
    | zero =>
      intro i l hi hl q
      obtain rfl : i = 30 := by omega
      exact t_X6_outermostAt_20 (by omega) ⟨fun _ => q, fun q => absurd (show (30 : Int32) ≤ nI 30 by decide) q⟩
    | succ n ih =>
      intro i l hi hl q
      simp only [oaF] at q
      refine t_X6_outermostAt_20 (by omega) ⟨fun q => absurd q (n30_not (by omega)), fun _ => ⟨S.1, s_isOutermost S (fun q => absurd ⟨by rw [ti_nI (by omega)]; omega, by rw [ti_nI (by omega)]; omega⟩ q) (fun t et ht => ⟨_, rfl, ?_⟩)⟩⟩
      obtain rfl : i = t := (nI_eq_iff (by omega) (by omega)).mp et
      rw [nI_S]
      by_cases c : outB (tg h s) i = true
      · rw [if_pos c] at q ⊢
        refine ⟨fun z => absurd z (by decide), fun _ => ⟨fun z => ?_, fun z => ?_⟩⟩
        · have l0 : l ≠ 0 := fun e => z (by rw [e]; rfl)
          rw [if_neg l0] at q
          rw [nI_P (by omega) hl]
          exact ih (i + 1) (l - 1) (by omega) (by omega) q
        · have l0 : l = 0 := (nI_eq_iff (b := 0) hl (by omega)).mp z
          rw [if_pos l0] at q
          exact q
      · rw [if_neg c] at q ⊢
        exact ⟨fun _ => ih (i + 1) l (by omega) hl q, fun z => absurd rfl z⟩
  refine e_X6_outermostAt (by omega) ⟨S.1, s_nestCount (by omega) S ⟨_, rfl, fun z => ?_, fun z => ⟨?_, ?_⟩⟩⟩
  · have := (nI_le_iff (b := 0) (by omega) (by omega)).mp z
    omega
  · intro q
    have := (nI_eq_iff (b := 0) (by omega) (by omega)).mp q
    omega
  · rw [nR hv (by omega)]
    have := Nat.mod_lt v hc
    exact loop 30 0 _ rfl (by omega) hQ
end DR
/-- some thing is outermost -/
theorem wft_outer {M : Nat} {c r : Int32} {A : Nat → Nat → Int32} (W : WfT M c r A) (hc : c.toInt ≤ 40) {t : Nat} (ht : t < M) (h0 : A t 0 = 1) : ∃ u, u < M ∧ A u 0 = 1 ∧ A u 6 = -1 := by
  have aux : ∀ (n t : Nat), t < M → A t 0 = 1 → endsT A M n (A t 6) → ∃ u, u < M ∧ A u 0 = 1 ∧ A u 6 = -1 := by
    intro n
    induction n with
    | zero => exact fun t ht h0 h => ⟨t, ht, h0, h⟩
    | succ n ih =>
      intro t ht h0 h
      rcases h with h | ⟨r, h1, h2, h3, h4⟩
      · exact ⟨t, ht, h0, h⟩
      · exact ih r h2 h3 h4
  exact aux 20 t ht h0 (W.endsT hc ht h0)
theorem cntF_pos {p : Nat → Bool} {t : Nat} : ∀ (n i : Nat), i ≤ t → t < i + n → p t = true → 0 < cntF p i n
  | 0, i, h1, h2, _ => by omega
  | n + 1, i, h1, h2, h => by
    simp only [cntF]
    by_cases e : i = t
    · rw [e, h]
      simp
      omega
    · have := cntF_pos n (i + 1) (by omega) (by omega) h
      omega
theorem WF.nest {S : Nat → Int32} (W : WF S) (h : 0 < (S 2).toInt) : 0 < cntF (outB (tS S)) 0 30 := by
  have h0 := (W.1.2.2.2.2.1 0 (by omega)).mpr h
  obtain ⟨u, h1, h2, h3⟩ := wft_outer W.2.2.2.2 W.1.1.1.2 (t := 0) (by omega) h0
  refine cntF_pos 30 0 (by omega) (by omega) (t := u) ?_
  unfold outB
  rw [h2, h3]
  rfl
