/-! ===== the reference: words, whether a wall can come ===== -/
theorem jI_mul (a b : Int) : jI (a * b) = jI a * jI b := Int64.ofInt_mul a b
def likeI (S : Nat → Int32) (f t : Nat) : Int := if t < 6 ∨ tS S t 5 = nI f then 0 else (S (2256 + 12 * f + (tS S t 5).toInt.toNat)).toInt
def deepI (S : Nat → Int32) (t : Nat) : Int := (deepN (tS S) 31 (nI t) : Int) + (if 6 ≤ t then 1 else 0)
def inTB (A : Nat → Nat → Int32) (t i j : Nat) : Bool := decide ((cN A t 1 ≤ i ∧ i < cN A t 3) ∧ cN A t 2 ≤ j ∧ j < cN A t 4)
def inAB (A : Nat → Nat → Int32) (a : Nat) (ob : Option Nat) (i j : Nat) : Bool := inTB A a i j || (match ob with
  | none => false
  | some b => inTB A b i j)
def f4 (S : Nat → Int32) : Nat → Nat → Nat → Int
  | 0 => fun _ _ => 1
  | 1 => wrt S
  | 2 => wel S
  | _ => riv S
def outG (S : Nat → Int32) (a : Nat) (ob : Option Nat) (m i j : Nat) : Int := if inAB (tS S) a ob i j = true then 0 else f4 S m i j
def optI (g : Nat → Int) : Option Nat → Int
  | none => 0
  | some b => g b
def wI (S : Nat → Int32) (f x0 z0 x1 z1 a : Nat) (ob : Option Nat) (k : Nat) : Int :=
  if k = 0 then 2 * (((x1 : Int) - x0) + ((z1 : Int) - z0)) else if k = 1 then (x1 : Int) - x0 else if k = 2 then (z1 : Int) - z0 else if k < 7 then box (outG S a ob (k - 3)) x0 z0 x1 z1 else
  if k = 7 then deepI S a + optI (deepI S) ob else if k = 8 then likeI S f a + optI (likeI S f) ob else if k = 9 then (cntF (ownB (tS S) (nI f)) 6 48 : Int) else if k = 10 then (S 3).toInt else optI (fun _ => 1) ob
section RW
variable {G : GG} {d : Nat} {h : HP} {y : Nat} {Q : Option Value → HP → Prop}
theorem r_likeOf (hd : 2 ≤ d) (M : MdSh G h y) (W : WfR (said h y)) {f t : Nat} (hf : f < 12) (ht : t < 54) (w : tS (said h y) t 0 = 1) (hQ : Q (some (.int (iI (likeI (said h y) f t)))) h) : Cal G d mX12_likeOf [.ref y, .int (nI f), .int (nI t)] h Q := by
  obtain ⟨m1, m2, m3⟩ := M.sd
  have e6 : (nI t < 6) ↔ t < 6 := nI_lt_iff (b := 6) (by omega) (by omega)
  refine e_X12_likeOf (by omega) ⟨fun c => ?_, fun c => ⟨M.1, r_of (k := 5) (by omega) M (ti_nI (by omega)) ht rfl (by omega) ⟨_, rfl, fun c2 => ⟨y + 13, m1, r_of (k := 5) (by omega) M (ti_nI (by omega)) ht rfl (by omega) ⟨_, rfl, m2, ?_⟩⟩, fun c2 => ?_⟩⟩⟩
  · unfold likeI at hQ
    rw [if_pos (Or.inl (e6.mp c))] at hQ
    exact hQ
  · rw [e6] at c
    have o := W.2.2.2.2.1 t (by omega) ht w
    unfold rng at o
    obtain ⟨u, hu, eu⟩ := of_in (n := 12) (x := tS (said h y) t 5) o.1 (by omega)
    rw [sd_tS, eu] at c2 ⊢
    have e : 2256 + 12 * nI f + nI u = nI (2256 + 12 * f + u) := by
      show nI 2256 + nI 12 * nI f + nI u = _
      rw [nM, nA, nA]
    refine ⟨by rw [e, m3]; exact vin_nI (by omega) (by omega), ?_⟩
    rw [e, cl_nI (by omega)]
    unfold likeI at hQ
    rw [eu, if_neg (fun q => q.elim c c2), ti_nI (by omega), iI_ti] at hQ
    exact hQ
  · rw [sd_tS] at c2
    unfold likeI at hQ
    rw [if_pos (Or.inr c2)] at hQ
    exact hQ
theorem WfR.endsW {S : Nat → Int32} (W : WfR S) (v : Nat) (hv : v < 54) (hw : wallB (tS S) v = true) : endsF (tS S) 54 30 (tS S v 6) := by
  have := (W.2.2.2.1.ends W.1.1.2 hv ((W.2.2.1.w hv).mpr hw)).mono (Nat.le_refl 54) (show 20 ≤ 30 by omega)
  exact this
theorem r_words94 (hd : 3 ≤ d) {x0 z0 x1 z1 a : Nat} {ob : Option Nat} {xf : Int32} {h : HP} (M : MdSh G h y) (W : WfR (said h y)) (T : ThW h y (nI x0) (nI z0) (nI x1) (nI z1) a ob) (ha : a < 54) (wa : tS (said h y) a 0 = 1) (wb : thereO (said h y) ob) (hx : x1 ≤ 40) (j : Nat) (hj : j < 40) :
    ∀ n i h1 (P : Nat → Int), i + n = x1 → FrS nop (fun x k => x = y + 12 ∧ 3 ≤ k ∧ k < 7) h h1 → (∀ m, m < 4 → hL h1 (y + 12) (3 + m) = jI (P m)) → (∀ h2, FrS nop (fun x k => x = y + 12 ∧ 3 ≤ k ∧ k < 7) h h2 → (∀ m, m < 4 → hL h2 (y + 12) (3 + m) = jI (P m + sum1 (fun k => outG (said h y) a ob m (i + k) j) n)) → Ex G d mX12_wordsFor 81 [(0, .ref y), (1, .int xf), (2, .int (nI (j + 1)))] [] h2 Q) → Ex G d mX12_wordsFor 94 [(0, .ref y), (1, .int xf), (2, .int (nI j)), (3, .int (nI i))] [] h1 Q := by
  intro n
  induction n with
  | zero =>
    intro i h1 P hi F V k
    obtain rfl : i = x1 := by omega
    have M1 := M.fs F
    have t3 : hI h1 y 33 = nI i := (F.i (fun z => z)).trans T.1.2.2.1
    refine t_X12_wordsFor_94 (by omega) ⟨M1.1, ?_⟩
    rw [t3, nI_S]
    refine ⟨fun _ => k h1 F (fun m hm => ?_), fun q => absurd ((nI_le_iff (by omega) (by omega)).mpr (Nat.le_refl _)) q⟩
    rw [V m hm]
    simp only [sum1]
    rw [Int.add_zero]
  | succ n ih =>
    intro i h1 P hi F V k
    have M1 := M.fs F
    have eS : said h1 y = said h y := funext fun q => F.i (fun z => z)
    have t3 : hI h1 y 33 = nI x1 := (F.i (fun z => z)).trans T.1.2.2.1
    have t5 : hI h1 y 35 = nI a := (F.i (fun z => z)).trans T.2.1
    have t6 : hI h1 y 36 = onI ob := (F.i (fun z => z)).trans T.2.2
    have dd := W.1
    unfold rng at dd
    have has : ∀ t, t < 54 → tS (said h y) t 0 = 1 → hasB (sd h1 y) t (nI i) (nI j) = inTB (tS (said h y)) t i j := fun t ht w => by
      rw [sd_tS, eS]
      have g := (W.2.2.2.1.1 t ht w).has dd.1.2 dd.2.2 (i := i) (j := j) (by omega) (by omega)
      unfold inTB
      cases hb : hasB (tS (said h y)) t (nI i) (nI j)
      · symm
        rw [decide_eq_false_iff_not]
        intro q
        rw [g.mpr q] at hb
        cases hb
      · symm
        rw [decide_eq_true_eq]
        exact g.mp hb
    have skip : inAB (tS (said h y)) a ob i j = true → Ex G d mX12_wordsFor 94 [(0, .ref y), (1, .int xf), (2, .int (nI j)), (3, .int (nI i + 1))] [] h1 Q := fun c => by
      rw [nI_S]
      refine ih (i + 1) h1 P (by omega) F V (fun h2 F2 V2 => k h2 F2 (fun m hm => ?_))
      rw [V2 m hm, sum1_sh]
      congr 1
      have : outG (said h y) a ob m (i + 0) j = 0 := by
        unfold outG
        rw [Nat.add_zero, if_pos c]
      rw [this]
      simp only [Nat.add_assoc, Nat.add_comm 1]
      omega
    have take : inAB (tS (said h y)) a ob i j = false → Ex G d mX12_wordsFor 139 [(0, .ref y), (1, .int xf), (2, .int (nI j)), (3, .int (nI i))] [] h1 Q := fun c => by
      obtain ⟨m1, m2, m3⟩ := M1.sd
      obtain ⟨w1, w2, w3⟩ : hR h1 y 28 = some (y + 12) ∧ Kd G h1 (y + 12) 15 ∧ hN h1 (y + 12) = 12 := M1.2 (28, 12, 15, 12) (by decide)
      have e : 8 + 40 * nI j + nI i = nI (8 + (40 * j + i)) := by
        show nI 8 + nI 40 * nI j + nI i = _
        rw [nM, nA, nA, Nat.add_assoc]
      obtain ⟨c0, hc0, ec0⟩ := W.cell (c := 40 * j + i) (by omega)
      obtain ⟨q1, q2, q3⟩ := wrt_n hc0 ec0
      have ec : hI h1 (y + 13) (8 + 40 * nI j + nI i).toNatClampNeg = nI c0 := by
        rw [e, cl_nI (by omega)]
        exact (congrFun eS _).trans ec0
      have vw : ∀ {h3 : HP} (k : Nat), k < 12 → KP h1 h3 → vp_in (nI k) (hN h3 (y + 12)) := fun k hk kp => by
        rw [w2.len kp, w3]; exact vin_nI hk (by omega)
      refine t_X12_wordsFor_139 ⟨M1.1, y + 13, m1, m2, by rw [e, m3]; exact vin_nI (by omega) (by omega), y + 12, w1, w2, vw 3 (by omega) (KP.rf _), vw 3 (by omega) (KP.rf _), vw 4 (by omega) (kp_sL ..), vw 4 (by omega) (kp_sL ..), fun h13 g13 => ?_⟩
      have k13 : KP h1 h13 := by rw [g13]; exact (kp_sL ..).tr (kp_sL ..)
      refine ⟨vw 5 (by omega) k13, vw 5 (by omega) k13, fun h18 g18 => ?_⟩
      have k18 : KP h1 h18 := by rw [g18]; exact k13.tr (kp_sL ..)
      refine ⟨vw 6 (by omega) k18, vw 6 (by omega) k18, fun h23 g23 => ?_⟩
      have g : ∀ m, outG (said h y) a ob m (i + 0) j = f4 (said h y) m i j := fun m => by
        unfold outG
        rw [Nat.add_zero, if_neg (by rw [c]; simp)]
      have cW : (irm (nI c0) 128).toInt64 = jI (wrt (said h y) i j) := by
        rw [show irm (nI c0) 128 = nI (c0 % 128) from nR (m := 128) (by omega) (by omega), jI_32, ti_nI (by omega), q1]
      have cE : (nI c0 / 256).toInt64 = jI (wel (said h y) i j) := by
        rw [show nI c0 / 256 = nI (c0 / 256) from nD (m := 256) (by omega) (by omega), jI_32, ti_nI (by omega), q3]
      have cR : (irm (nI c0 / 128) 2).toInt64 = jI (riv (said h y) i j) := by
        rw [show nI c0 / 128 = nI (c0 / 128) from nD (m := 128) (by omega) (by omega), show irm (nI (c0 / 128)) 2 = nI (c0 / 128 % 2) from nR (m := 2) (by omega) (by omega), jI_32, ti_nI (by omega), q2]
      rw [ec, cW] at g13
      rw [ec, cE] at g18
      rw [ec, cR] at g23
      have F13 : FrS nop (fun x k => x = y + 12 ∧ 3 ≤ k ∧ k < 7) h1 h13 := by
        rw [g13]
        exact (frS_sL (PI := nop) (PL := fun x k => x = y + 12 ∧ 3 ≤ k ∧ k < 7) _ _ ⟨rfl, by omega, by omega⟩).tr (frS_sL _ _ ⟨rfl, by omega, by omega⟩)
      have F18 : FrS nop (fun x k => x = y + 12 ∧ 3 ≤ k ∧ k < 7) h13 h18 := by
        rw [g18]
        exact frS_sL _ _ ⟨rfl, by omega, by omega⟩
      have F23 : FrS nop (fun x k => x = y + 12 ∧ 3 ≤ k ∧ k < 7) h18 h23 := by
        rw [g23]
        exact frS_sL _ _ ⟨rfl, by omega, by omega⟩
      have b0 := V 0 (by omega)
      have b1 := V 1 (by omega)
      have b2 := V 2 (by omega)
      have b3 := V 3 (by omega)
      rw [nI_S]
      refine ih (i + 1) h23 (fun m => P m + f4 (said h y) m i j) (by omega) (F.tr (F13.tr (F18.tr F23))) (fun m hm => ?_) (fun h2 F2 V2 => k h2 F2 (fun m hm => ?_))
      · have : m = 0 ∨ m = 1 ∨ m = 2 ∨ m = 3 := by omega
        rw [jI_add]
        rcases this with rfl | rfl | rfl | rfl
        · rw [← b0, g23, g18, g13]
          simp [hL_sL, f4]
          rfl
        · rw [← b1, g23, g18, g13]
          simp [hL_sL, f4]
        · rw [← b2, g23, g18, g13]
          simp [hL_sL, f4]
        · rw [← b3, g23, g18, g13]
          simp [hL_sL, f4]
      · rw [V2 m hm, sum1_sh, g m]
        congr 1
        simp only [Nat.add_assoc, Nat.add_comm 1]
        omega
    refine t_X12_wordsFor_94 (by omega) ⟨M1.1, ?_⟩
    rw [t3, t5]
    refine ⟨fun q => ?_, fun _ => r_hasCell (t := a) (by omega) M1 (ti_nI (by omega)) ha ⟨_, rfl, fun c => skip ?_, fun c => ?_⟩⟩
    · have := (nI_le_iff (by omega) (by omega)).mp q
      omega
    · have c := Decidable.not_not.mp (fun z => c (if10.mpr z))
      rw [has a ha wa] at c
      unfold inAB
      rw [c]
      rfl
    · have c := if10.mp c
      rw [has a ha wa] at c
      have c : inTB (tS (said h y)) a i j = false := by
        cases z : inTB (tS (said h y)) a i j
        · rfl
        · exact absurd z c
      rw [t6]
      cases ob with
      | none =>
        refine ⟨fun _ => take ?_, fun q => absurd rfl q⟩
        unfold inAB
        rw [c]
        rfl
      | some b =>
        have hb := wb b rfl
        refine ⟨fun q => absurd q (nI_ne_neg (by omega)), fun _ => r_hasCell (t := b) (by omega) M1 (ti_nI (by omega)) hb.1 ⟨_, rfl, fun c2 => take ?_, fun c2 => skip ?_⟩⟩
        · have c2 := if10.mp c2
          rw [has b hb.1 hb.2] at c2
          unfold inAB
          rw [c]
          show (false || inTB (tS (said h y)) b i j) = false
          cases z : inTB (tS (said h y)) b i j
          · rfl
          · exact absurd z c2
        · have c2 := Decidable.not_not.mp (fun z => c2 (if10.mpr z))
          rw [has b hb.1 hb.2] at c2
          unfold inAB
          rw [c]
          exact c2
theorem r_wordsFor (hd : 4 ≤ d) {x0 z0 x1 z1 a f : Nat} {ob : Option Nat} {h : HP} (M : MdSh G h y) (W : WfR (said h y)) (T : ThW h y (nI x0) (nI z0) (nI x1) (nI z1) a ob) (hf : f < 12) (ha : a < 54) (wa : tS (said h y) a 0 = 1) (wb : thereO (said h y) ob) (hx0 : x0 < x1) (hx : x1 ≤ 40) (hz0 : z0 < z1) (hz : z1 ≤ 40) (hQ : ∀ h2, FrS nop (fun x _ => x = y + 12) h h2 → (∀ k, k < 12 → hL h2 (y + 12) k = jI (wI (said h y) f x0 z0 x1 z1 a ob k)) → Q none h2) : Cal G d mX12_wordsFor [.ref y, .int (nI f)] h Q := by
  have PW : ∀ {h1 h2 : HP}, FrS nop (fun x k => x = y + 12 ∧ 3 ≤ k ∧ k < 7) h1 h2 → FrS nop (fun x _ => x = y + 12) h1 h2 := fun F => F.weak (fun _ _ q => q) (fun _ _ q => q.1)
  -- the end
  have last : ∀ h5 (U : Nat → Int), FrS nop (fun x _ => x = y + 12) h h5 → (∀ k, k < 12 → hL h5 (y + 12) k = jI (U k)) → (∀ k, k < 12 → k ≠ 9 → k ≠ 10 → U k = wI (said h y) f x0 z0 x1 z1 a ob k) → ∀ x2 : Int32, Ex G d mX12_wordsFor 346 [(0, .ref y), (1, .int (nI f)), (2, .int x2)] [] h5 Q := by
    intro h5 U F V E x2
    have M5 := M.fs F
    have eS : said h5 y = said h y := funext fun q => F.i (fun z => z)
    obtain ⟨m1, m2, m3⟩ := M5.sd
    obtain ⟨w1, w2, w3⟩ : hR h5 y 28 = some (y + 12) ∧ Kd G h5 (y + 12) 15 ∧ hN h5 (y + 12) = 12 := M5.2 (28, 12, 15, 12) (by decide)
    refine t_X12_wordsFor_346 (by omega) ⟨M5.1, y + 12, w1, r_wallsOf (by omega) M5 (by rw [sd_tS, eS]; exact W.2.2.1) ⟨_, rfl, w2, by rw [w3]; exact vin_nI (k := 9) (by omega) (by omega), y + 12, w1, y + 13, m1, m2.up (kp_sL ..), vin_nI (k := 3) (by show 3 < hN h5 (y + 13); omega) (by show hN h5 (y + 13) < _; omega), w2.up (kp_sL ..), vin_nI (k := 10) (by show 10 < hN h5 (y + 12); omega) (by show hN h5 (y + 12) < _; omega), ?_⟩⟩
    refine hQ _ (F.tr ((frS_sL (PI := nop) (PL := fun x _ => x = y + 12) _ _ rfl).tr (frS_sL _ _ rfl))) (fun k hk => ?_)
    by_cases k10 : k = 10
    · subst k10
      rw [hL_sL, if_pos ⟨rfl, rfl⟩, hI_sL, jI_32, show hI h5 (y + 13) 3 = said h y 3 from congrFun eS 3]
      rfl
    · rw [hL_sL, if_neg (fun z => k10 z.2)]
      by_cases k9 : k = 9
      · subst k9
        rw [hL_sL, if_pos ⟨rfl, rfl⟩, jI_32, sd_tS, eS, ti_nI (by have := cntF_le (ownB (tS (said h y)) (nI f)) 48 6; omega)]
        rfl
      · rw [hL_sL, if_neg (fun z => k9 z.2), V k hk, E k hk k9 k10]
  -- deep and like
  have mid : ∀ h5 (U : Nat → Int), FrS nop (fun x _ => x = y + 12) h h5 → (∀ k, k < 12 → hL h5 (y + 12) k = jI (U k)) → (∀ k, k < 7 → U k = wI (said h y) f x0 z0 x1 z1 a ob k) → (∀ k, 7 ≤ k → k < 12 → U k = 0) → Ex G d mX12_wordsFor 81 [(0, .ref y), (1, .int (nI f)), (2, .int (nI z1))] [] h5 Q := by
    intro h5 U F V E E0
    have M5 := M.fs F
    have eS : said h5 y = said h y := funext fun q => F.i (fun z => z)
    have t4 : hI h5 y 34 = nI z1 := (F.i (fun z => z)).trans T.1.2.2.2
    have t5 : hI h5 y 35 = nI a := (F.i (fun z => z)).trans T.2.1
    obtain ⟨w1, w2, w3⟩ : hR h5 y 28 = some (y + 12) ∧ Kd G h5 (y + 12) 15 ∧ hN h5 (y + 12) = 12 := M5.2 (28, 12, 15, 12) (by decide)
    have dl := fun o => deepN_le (tS (said h y)) 31 o
    -- word 7 of a thing
    have d7 : ∀ t, t < 54 → ∀ u : Int32, u = (if 6 ≤ t then 1 else 0) → (nI (deepN (tS (said h y)) 31 (nI t)) + u).toInt64 = jI (deepI (said h y) t) := fun t ht u eu => by
      have := dl (nI t)
      have eu2 : u.toInt = if 6 ≤ t then 1 else 0 := by
        rw [eu]
        split <;> rfl
      rw [jI_32, ti_add (by rw [ti_nI (by omega), eu2]; split <;> omega) (by rw [ti_nI (by omega), eu2]; split <;> omega), ti_nI (by omega), eu2]
      rfl
    have lk : ∀ t, -2147483648 ≤ likeI (said h y) f t ∧ likeI (said h y) f t < 2147483648 := fun t => by
      unfold likeI
      split
      · omega
      · exact ⟨ti_lo _, ti_hi _⟩
    have l8 : ∀ t, (iI (likeI (said h y) f t)).toInt64 = jI (likeI (said h y) f t) := fun t => by
      rw [jI_32, ti_iI (lk t).1 (lk t).2]
    have go256 : ∀ u : Int32, u = (if 6 ≤ a then 1 else 0) → Ex G d mX12_wordsFor 256 [(0, .ref y), (1, .int (nI f)), (2, .int (nI z1))] [.int u, .int (nI (deepN (tS (said h y)) 31 (nI a))), .int 7, .ref (y + 12)] h5 Q := by
      intro u eu
      refine t_X12_wordsFor_256 (by omega) ⟨w2, by rw [w3]; exact vin_nI (k := 7) (by omega) (by omega), M5.1.up (kp_sL ..), y + 12, w1, ?_⟩
      rw [show (7 : Int32).toNatClampNeg = 7 from rfl, d7 a ha u eu]
      generalize g6 : sL h5 (y + 12) 7 (jI (deepI (said h y) a)) = h6
      have F6 : FrS nop (fun x _ => x = y + 12) h5 h6 := by rw [← g6]; exact frS_sL _ _ rfl
      have M6 := M5.fs F6
      have eS6 : said h6 y = said h y := (funext fun q => F6.i (fun z => z)).trans eS
      have t56 : hI h6 y 35 = nI a := (F6.i (fun z => z)).trans t5
      have t66 : hI h6 y 36 = onI ob := (F6.i (fun z => z)).trans ((F.i (fun z => z)).trans T.2.2)
      obtain ⟨v1, v2, v3⟩ : hR h6 y 28 = some (y + 12) ∧ Kd G h6 (y + 12) 15 ∧ hN h6 (y + 12) = 12 := M6.2 (28, 12, 15, 12) (by decide)
      rw [t56]
      refine r_likeOf (by omega) M6 (by rw [eS6]; exact W) hf ha (by rw [eS6]; exact wa) ⟨_, rfl, v2, by rw [v3]; exact vin_nI (k := 8) (by omega) (by omega), ?_⟩
      rw [eS6, l8 a]
      generalize g7 : sL h6 (y + 12) 8 (jI (likeI (said h y) f a)) = h7
      have F7 : FrS nop (fun x _ => x = y + 12) h6 h7 := by rw [← g7]; exact frS_sL _ _ rfl
      have M7 := M6.fs F7
      have eS7 : said h7 y = said h y := (funext fun q => F7.i (fun z => z)).trans eS6
      have t67 : hI h7 y 36 = onI ob := (F7.i (fun z => z)).trans t66
      have L7 : ∀ k, hL h7 (y + 12) k = if k = 8 then jI (likeI (said h y) f a) else if k = 7 then jI (deepI (said h y) a) else hL h5 (y + 12) k := fun k => by
        rw [← g7, hL_sL]
        by_cases c : k = 8
        · rw [if_pos ⟨rfl, c⟩, if_pos c]
        · rw [if_neg (fun z => c z.2), if_neg c, ← g6, hL_sL]
          by_cases c2 : k = 7
          · rw [if_pos ⟨rfl, c2⟩, if_pos c2]
          · rw [if_neg (fun z => c2 z.2), if_neg c2]
      obtain ⟨u1, u2, u3⟩ : hR h7 y 28 = some (y + 12) ∧ Kd G h7 (y + 12) 15 ∧ hN h7 (y + 12) = 12 := M7.2 (28, 12, 15, 12) (by decide)
      rw [t67]
      cases ob with
      | none =>
        refine ⟨fun _ => last h7 (fun k => if k = 8 then likeI (said h y) f a else if k = 7 then deepI (said h y) a else U k) (F.tr (F6.tr F7)) (fun k hk => ?_) (fun k hk n9 n10 => ?_) _, fun q => absurd rfl q⟩
        · rw [L7]
          split
          · rfl
          · split
            · rfl
            · exact V k hk
        · by_cases k7 : k < 7
          · rw [if_neg (by omega), if_neg (by omega)]
            exact E k k7
          · have : k = 7 ∨ k = 8 ∨ k = 11 := by omega
            rcases this with rfl | rfl | rfl
            · simp [wI, optI]
            · simp [wI, optI]
            · rw [if_neg (by omega), if_neg (by omega), E0 11 (by omega) (by omega)]
              simp [wI, optI]
      | some b =>
        have hb := wb b rfl
        refine ⟨fun q => absurd q (nI_ne_neg (by omega)), fun _ => ⟨y + 12, u1, u2, by rw [u3]; exact vin_nI (k := 7) (by omega) (by omega), ?_⟩⟩
        rw [onI_some]
        refine r_deepOf (N := 30) (by omega) M7 (by rw [sd_tS, eS7]; exact W.2.2.1) (nI_ne_neg (by omega)) (by rw [sd_tS, eS7]; exact W.endsW) ⟨_, rfl, ?_⟩
        rw [sd_tS, eS7, t67, L7 7, if_neg (by omega), if_pos rfl, onI_some]
        have go314 : ∀ u : Int32, u = (if 6 ≤ b then 1 else 0) → Ex G d mX12_wordsFor 314 [(0, .ref y), (1, .int (nI f)), (2, .int (nI z1))] [.int u, .int (nI (deepN (tS (said h y)) 31 (nI b))), .long (jI (deepI (said h y) a)), .int 7, .ref (y + 12)] h7 Q := by
          intro u eu
          refine t_X12_wordsFor_314 (by omega) ⟨u2, by rw [u3]; exact vin_nI (k := 7) (by omega) (by omega), M7.1.up (kp_sL ..), y + 12, u1, u2.up (kp_sL ..), vin_nI (k := 8) (by show 8 < hN h7 (y + 12); omega) (by show hN h7 (y + 12) < _; omega), ?_⟩
          rw [show (7 : Int32).toNatClampNeg = 7 from rfl, d7 b hb.1 u eu, ← jI_add]
          generalize g8 : sL h7 (y + 12) 7 (jI (deepI (said h y) a + deepI (said h y) b)) = h8
          have F8 : FrS nop (fun x _ => x = y + 12) h7 h8 := by rw [← g8]; exact frS_sL _ _ rfl
          have M8 := M7.fs F8
          have eS8 : said h8 y = said h y := (funext fun q => F8.i (fun z => z)).trans eS7
          have t68 : hI h8 y 36 = nI b := (F8.i (fun z => z)).trans t67
          obtain ⟨v1, v2, v3⟩ : hR h8 y 28 = some (y + 12) ∧ Kd G h8 (y + 12) 15 ∧ hN h8 (y + 12) = 12 := M8.2 (28, 12, 15, 12) (by decide)
          rw [t68]
          refine r_likeOf (by omega) M8 (by rw [eS8]; exact W) hf hb.1 (by rw [eS8]; exact hb.2) ⟨_, rfl, by rw [v3]; exact vin_nI (k := 8) (by omega) (by omega), fun h13 g13 => ?_⟩
          have L8 : hL h8 (y + 12) 8 = jI (likeI (said h y) f a) := by
            rw [← g8, hL_sL, if_neg (by omega), L7 8, if_pos rfl]
          rw [eS8, l8 b, L8, ← jI_add] at g13
          have F13 : FrS nop (fun x _ => x = y + 12) h8 h13 := by rw [g13]; exact frS_sL _ _ rfl
          refine ⟨y + 12, (F13.r _ _).trans v1, F13.kd v2, by rw [F13.n v2, v3]; exact vin_nI (k := 11) (by omega) (by omega), last _ (fun k => if k = 11 then 1 else if k = 8 then likeI (said h y) f a + likeI (said h y) f b else if k = 7 then deepI (said h y) a + deepI (said h y) b else U k) (F.tr (F6.tr (F7.tr (F8.tr (F13.tr (frS_sL _ _ rfl)))))) (fun k hk => ?_) (fun k hk n9 n10 => ?_) _⟩
          · rw [hL_sL]
            by_cases c : k = 11
            · rw [if_pos ⟨rfl, c⟩, if_pos c]
              rfl
            · rw [if_neg (fun z => c z.2), if_neg c, g13, hL_sL]
              by_cases c8 : k = 8
              · rw [if_pos ⟨rfl, c8⟩, if_pos c8]
              · rw [if_neg (fun z => c8 z.2), if_neg c8, ← g8, hL_sL]
                by_cases c7 : k = 7
                · rw [if_pos ⟨rfl, c7⟩, if_pos c7]
                · rw [if_neg (fun z => c7 z.2), if_neg c7, L7 k, if_neg c8, if_neg c7]
                  exact V k hk
          · by_cases k7 : k < 7
            · rw [if_neg (by omega), if_neg (by omega), if_neg (by omega)]
              exact E k k7
            · have : k = 7 ∨ k = 8 ∨ k = 11 := by omega
              rcases this with rfl | rfl | rfl
              · simp [wI, optI]
              · simp [wI, optI]
              · simp [wI, optI]
        have l6 : (nI b < 6) ↔ b < 6 := nI_lt_iff (b := 6) (by omega) (by omega)
        refine ⟨fun c => go314 0 ?_, fun c => go314 1 ?_⟩
        · rw [l6] at c
          rw [if_neg (by omega)]
        · rw [l6] at c
          rw [if_pos (by omega)]
    refine t_X12_wordsFor_81 (by omega) ⟨M5.1, ?_⟩
    rw [t4, t5]
    refine ⟨fun _ => ⟨y + 12, w1, r_deepOf (N := 30) (by omega) M5 (by rw [sd_tS, eS]; exact W.2.2.1) (nI_ne_neg (by omega)) (by rw [sd_tS, eS]; exact W.endsW) ⟨_, rfl, ?_⟩⟩, fun q => absurd ((nI_le_iff (by omega) (by omega)).mpr (Nat.le_refl _)) q⟩
    rw [sd_tS, eS, t5]
    have l6 : (nI a < 6) ↔ a < 6 := nI_lt_iff (b := 6) (by omega) (by omega)
    refine ⟨fun c => go256 0 ?_, fun c => go256 1 ?_⟩
    · rw [l6] at c
      rw [if_neg (by omega)]
    · rw [l6] at c
      rw [if_pos (by omega)]
  -- the rows
  have rows : ∀ n j h1 (P : Nat → Int), j + n = z1 → FrS nop (fun x _ => x = y + 12) h h1 → (hL h1 (y + 12) 0 = jI (2 * (((x1 : Int) - x0) + ((z1 : Int) - z0))) ∧ hL h1 (y + 12) 1 = jI ((x1 : Int) - x0) ∧ hL h1 (y + 12) 2 = jI ((z1 : Int) - z0)) → (∀ m, m < 4 → hL h1 (y + 12) (3 + m) = jI (P m)) → (∀ k, 7 ≤ k → k < 12 → hL h1 (y + 12) k = 0) → (∀ m, m < 4 → P m + sum1 (fun q => sum1 (fun k => outG (said h y) a ob m (x0 + k) (j + q)) (x1 - x0)) n = box (outG (said h y) a ob m) x0 z0 x1 z1) → Ex G d mX12_wordsFor 81 [(0, .ref y), (1, .int (nI f)), (2, .int (nI j))] [] h1 Q := by
    intro n
    induction n with
    | zero =>
      intro j h1 P hj F V0 V V7 E
      obtain rfl : j = z1 := by omega
      refine mid h1 (fun k => if k = 0 then 2 * (((x1 : Int) - x0) + ((j : Int) - z0)) else if k = 1 then (x1 : Int) - x0 else if k = 2 then (j : Int) - z0 else if k < 7 then P (k - 3) else 0) F (fun k hk => ?_) (fun k hk => ?_) (fun k k7 hk => ?_)
      · by_cases k0 : k = 0
        · subst k0; exact V0.1
        · by_cases k1 : k = 1
          · subst k1; exact V0.2.1
          · by_cases k2 : k = 2
            · subst k2; exact V0.2.2
            · rw [if_neg k0, if_neg k1, if_neg k2]
              by_cases k7 : k < 7
              · rw [if_pos k7]
                have := V (k - 3) (by omega)
                rw [show 3 + (k - 3) = k by omega] at this
                exact this
              · rw [if_neg k7, V7 k (by omega) hk]
                rfl
      · unfold wI
        by_cases k0 : k = 0
        · rw [if_pos k0, if_pos k0]
        · rw [if_neg k0, if_neg k0]
          by_cases k1 : k = 1
          · rw [if_pos k1, if_pos k1]
          · rw [if_neg k1, if_neg k1]
            by_cases k2 : k = 2
            · rw [if_pos k2, if_pos k2]
            · rw [if_neg k2, if_neg k2, if_pos hk, if_pos hk, ← E (k - 3) (by omega)]
              simp only [sum1]
              rw [Int.add_zero]
      · rw [if_neg (by omega), if_neg (by omega), if_neg (by omega), if_neg (by omega)]
    | succ n ih =>
      intro j h1 P hj F V0 V V7 E
      have M1 := M.fs F
      have eS : said h1 y = said h y := funext fun q => F.i (fun z => z)
      have T1 : ThW h1 y (nI x0) (nI z0) (nI x1) (nI z1) a ob := ⟨⟨(F.i (fun z => z)).trans T.1.1, (F.i (fun z => z)).trans T.1.2.1, (F.i (fun z => z)).trans T.1.2.2.1, (F.i (fun z => z)).trans T.1.2.2.2⟩, (F.i (fun z => z)).trans T.2.1, (F.i (fun z => z)).trans T.2.2⟩
      refine t_X12_wordsFor_81 (by omega) ⟨M1.1, ?_⟩
      rw [T1.1.2.2.2, T1.1.1]
      refine ⟨fun q => ?_, fun _ => r_words94 (by omega) M1 (by rw [eS]; exact W) T1 ha (by rw [eS]; exact wa) (by rw [eS]; exact wb) hx j (by omega) (x1 - x0) x0 h1 P (by omega) (frS_rf _ _ h1) V (fun h2 F2 V2 => ?_)⟩
      · have := (nI_le_iff (by omega) (by omega)).mp q
        omega
      · rw [eS] at V2
        refine ih (j + 1) h2 _ (by omega) (F.tr (PW F2)) ⟨(F2.l (by omega)).trans V0.1, (F2.l (by omega)).trans V0.2.1, (F2.l (by omega)).trans V0.2.2⟩ V2 (fun k k7 hk => (F2.l (by omega)).trans (V7 k k7 hk)) (fun m hm => ?_)
        rw [← E m hm, sum1_sh]
        simp only [Nat.add_zero, Nat.add_assoc, Nat.add_comm 1]
        omega
  -- the start
  refine e_X12_wordsFor ?_
  unfold T_X12_wordsFor
  have zero : ∀ n i h1, i + n = 12 → FrS nop (fun x _ => x = y + 12) h h1 → (∀ k, k < i → hL h1 (y + 12) k = 0) → Ex G d mX12_wordsFor 2 [(0, .ref y), (1, .int (nI f)), (2, .int (nI i))] [] h1 Q := by
    intro n
    induction n with
    | zero =>
      intro i h1 hi F V
      obtain rfl : i = 12 := by omega
      have M1 := M.fs F
      have t1 : hI h1 y 31 = nI x0 := (F.i (fun z => z)).trans T.1.1
      have t2 : hI h1 y 32 = nI z0 := (F.i (fun z => z)).trans T.1.2.1
      have t3 : hI h1 y 33 = nI x1 := (F.i (fun z => z)).trans T.1.2.2.1
      have t4 : hI h1 y 34 = nI z1 := (F.i (fun z => z)).trans T.1.2.2.2
      obtain ⟨w1, w2, w3⟩ : hR h1 y 28 = some (y + 12) ∧ Kd G h1 (y + 12) 15 ∧ hN h1 (y + 12) = 12 := M1.2 (28, 12, 15, 12) (by decide)
      have a1 : (nI x1 - nI x0).toInt64 = jI ((x1 : Int) - x0) := by rw [nS (by omega), jI_32, ti_nI (by omega)]; congr 1; omega
      have a2 : (nI z1 - nI z0).toInt64 = jI ((z1 : Int) - z0) := by rw [nS (by omega), jI_32, ti_nI (by omega)]; congr 1; omega
      have vw : ∀ {h3 : HP} (k : Nat), k < 12 → KP h1 h3 → vp_in (nI k) (hN h3 (y + 12)) := fun k hk kp => by
        rw [w2.len kp, w3]; exact vin_nI hk (by omega)
      refine t_X12_wordsFor_2 ⟨fun _ => ⟨M1.1, y + 12, w1, w2, vw 1 (by omega) (KP.rf _), vw 2 (by omega) (kp_sL ..), fun h8 g8 => ?_⟩, fun q => absurd (show (12 : Int32) ≤ nI 12 by decide) q⟩
      have k8 : KP h1 h8 := by rw [g8]; exact (kp_sL ..).tr (kp_sL ..)
      refine ⟨vw 1 (by omega) k8, vw 2 (by omega) k8, vw 0 (by omega) k8, ?_⟩
      rw [hI_sL, hI_sL, t1, t2, t3, t4, a1, a2] at g8
      have F8 : FrS nop (fun x _ => x = y + 12) h1 h8 := by
        rw [g8]
        exact (frS_sL (PI := nop) (PL := fun x _ => x = y + 12) _ _ rfl).tr (frS_sL _ _ rfl)
      have b1 : hL h8 (y + 12) 1 = jI ((x1 : Int) - x0) := by rw [g8, hL_sL, if_neg (by omega), hL_sL, if_pos ⟨rfl, rfl⟩]
      have b2 : hL h8 (y + 12) 2 = jI ((z1 : Int) - z0) := by rw [g8, hL_sL, if_pos ⟨rfl, rfl⟩]
      have b0 : 2 * (hL h8 (y + 12) 1 + hL h8 (y + 12) 2) = jI (2 * (((x1 : Int) - x0) + ((z1 : Int) - z0))) := by
        rw [b1, b2, ← jI_add, jI_mul]
        rfl
      rw [hI_sL, b0, show hI h8 y 32 = nI z0 from (F8.i (fun z => z)).trans t2]
      have o8 : ∀ k, 3 ≤ k → k < 12 → hL h8 (y + 12) k = 0 := fun k k3 hk => by
        rw [g8, hL_sL, if_neg (by omega), hL_sL, if_neg (by omega)]
        exact V k hk
      refine rows (z1 - z0) z0 _ (fun _ => 0) (by omega) (F.tr (F8.tr (frS_sL _ _ rfl))) ⟨?_, ?_, ?_⟩ (fun m hm => ?_) (fun k k7 hk => ?_) (fun m hm => ?_)
      · rw [hL_sL, if_pos ⟨rfl, rfl⟩]
      · rw [hL_sL, if_neg (by omega)]; exact b1
      · rw [hL_sL, if_neg (by omega)]; exact b2
      · rw [hL_sL, if_neg (by omega), o8 _ (by omega) (by omega)]; rfl
      · rw [hL_sL, if_neg (by omega), o8 _ (by omega) (by omega)]
      · rw [box_rows _ (by omega) hx (by omega) hz, Int.zero_add]
    | succ n ih =>
      intro i h1 hi F V
      have M1 := M.fs F
      obtain ⟨w1, w2, w3⟩ : hR h1 y 28 = some (y + 12) ∧ Kd G h1 (y + 12) 15 ∧ hN h1 (y + 12) = 12 := M1.2 (28, 12, 15, 12) (by decide)
      refine t_X12_wordsFor_2 ⟨fun q => absurd q (n12_not (by omega)), fun _ => ⟨M1.1, y + 12, w1, w2, by rw [w3]; exact vin_nI (by omega) (by omega), ?_⟩⟩
      rw [cl_nI (by omega), nI_S]
      refine ih (i + 1) _ (by omega) (F.tr (frS_sL _ _ rfl)) (fun k hk => ?_)
      rw [hL_sL]
      by_cases c : k = i
      · rw [if_pos ⟨rfl, c⟩]
      · rw [if_neg (fun z => c z.2)]
        exact V k (by omega)
  exact zero 12 0 h (by omega) (frS_rf _ _ h) (fun k hk => by omega)
end RW
