/-! ===== things: ground and worth ===== -/
def cN (A : Nat → Nat → Int32) (t k : Nat) : Nat := (A t k).toInt.toNat
def bxT (f : Nat → Nat → Int) (A : Nat → Nat → Int32) (t : Nat) : Int := box f (cN A t 1) (cN A t 2) (cN A t 3) (cN A t 4)
theorem geo.n {c r : Int32} {A : Nat → Nat → Int32} {t : Nat} (g : geo c r A t) (hc : c.toInt ≤ 40) (hr : r.toInt ≤ 40) : (A t 1 = nI (cN A t 1) ∧ A t 2 = nI (cN A t 2) ∧ A t 3 = nI (cN A t 3) ∧ A t 4 = nI (cN A t 4)) ∧ (cN A t 1 < cN A t 3 ∧ cN A t 3 ≤ 40) ∧ cN A t 2 < cN A t 4 ∧ cN A t 4 ≤ 40 := by
  unfold geo at g
  unfold cN
  refine ⟨⟨nI_ti (by omega), nI_ti (by omega), nI_ti (by omega), nI_ti (by omega)⟩, by omega, by omega⟩
theorem box_one {x0 y0 x1 y1 : Nat} (h1 : x0 ≤ x1) (h2 : x1 ≤ 40) (h3 : y0 ≤ y1) (h4 : y1 ≤ 40) : box (fun _ _ => 1) x0 y0 x1 y1 = ((x1 - x0 : Nat) : Int) * ((y1 - y0 : Nat) : Int) := by
  rw [box_rows _ h1 h2 h3 h4]
  simp only [sum1_const]
  rw [Int.mul_one, Int.mul_comm]
theorem areaI_n {A : Nat → Nat → Int32} {t x0 y0 x1 y1 : Nat} (e1 : A t 1 = nI x0) (e2 : A t 2 = nI y0) (e3 : A t 3 = nI x1) (e4 : A t 4 = nI y1) (h1 : x0 ≤ x1) (h2 : x1 ≤ 40) (h3 : y0 ≤ y1) (h4 : y1 ≤ 40) : areaI A t = iI (box (fun _ _ => 1) x0 y0 x1 y1) := by
  unfold areaI
  rw [e1, e2, e3, e4, nS h1, nS h3, nM, box_one h1 h2 h3 h4, ← Int.natCast_mul, iI_nI]
theorem geo.area {c r : Int32} {A : Nat → Nat → Int32} {t : Nat} (g : geo c r A t) (hc : c.toInt ≤ 40) (hr : r.toInt ≤ 40) : areaI A t = iI (bxT (fun _ _ => 1) A t) := by
  obtain ⟨⟨e1, e2, e3, e4⟩, ⟨h1, h2⟩, h3, h4⟩ := g.n hc hr
  exact areaI_n e1 e2 e3 e4 (by omega) h2 (by omega) h4
theorem geo.has {c r : Int32} {A : Nat → Nat → Int32} {t : Nat} (g : geo c r A t) (hc : c.toInt ≤ 40) (hr : r.toInt ≤ 40) {i j : Nat} (hi : i ≤ 40) (hj : j ≤ 40) : hasB A t (nI i) (nI j) = true ↔ (cN A t 1 ≤ i ∧ i < cN A t 3) ∧ cN A t 2 ≤ j ∧ j < cN A t 4 := by
  obtain ⟨⟨e1, e2, e3, e4⟩, ⟨h1, h2⟩, h3, h4⟩ := g.n hc hr
  unfold hasB
  rw [decide_eq_true_eq, e1, e2, e3, e4, nI_le_iff (by omega) (by omega), nI_lt_iff (by omega) (by omega), nI_le_iff (by omega) (by omega), nI_lt_iff (by omega) (by omega)]
  constructor
  · intro q; exact ⟨⟨q.1, q.2.1⟩, q.2.2⟩
  · intro q; exact ⟨q.1.1, q.1.2, q.2⟩
def chB (A : Nat → Nat → Int32) (t o : Nat) : Bool := wallB A o && A o 6 == nI t
theorem chB_iff {A : Nat → Nat → Int32} (b : bin A) {t o : Nat} (ho : o < 54) : chB A t o = true ↔ A o 0 = 1 ∧ A o 6 = nI t := by
  unfold chB
  rw [Bool.and_eq_true, beq_iff_eq, ← b.w ho]
def anyB (p : Nat → Bool) : Nat → Bool
  | 0 => false
  | n + 1 => anyB p n || p n
theorem anyB_iff {p : Nat → Bool} : ∀ {n : Nat}, anyB p n = true ↔ ∃ i, i < n ∧ p i = true
  | 0 => ⟨fun h => (by simp [anyB] at h), fun ⟨i, h, _⟩ => absurd h (by omega)⟩
  | n + 1 => by
    simp only [anyB, Bool.or_eq_true]
    rw [anyB_iff]
    constructor
    · rintro (⟨i, h1, h2⟩ | h)
      · exact ⟨i, by omega, h2⟩
      · exact ⟨n, by omega, h⟩
    · rintro ⟨i, h1, h2⟩
      by_cases e : i = n
      · rw [e] at h2; exact Or.inr h2
      · exact Or.inl ⟨i, by omega, h2⟩
def cvB (A : Nat → Nat → Int32) (t i j o : Nat) : Bool := chB A t o && decide ((cN A o 1 ≤ i ∧ i < cN A o 3) ∧ cN A o 2 ≤ j ∧ j < cN A o 4)
theorem cvB_iff {A : Nat → Nat → Int32} {t i j o : Nat} : cvB A t i j o = true ↔ chB A t o = true ∧ ((cN A o 1 ≤ i ∧ i < cN A o 3) ∧ cN A o 2 ≤ j ∧ j < cN A o 4) := by
  unfold cvB
  rw [Bool.and_eq_true, decide_eq_true_eq]
/-- what no thing in it has -/
def gnd (A : Nat → Nat → Int32) (t : Nat) (f : Nat → Nat → Int) (i j : Nat) : Int := if anyB (cvB A t i j) 30 = true then 0 else f i j
theorem gnd_box {c r : Int32} {A : Nat → Nat → Int32} (W : WfT 30 c r A) (b : bin A) (hc : c.toInt ≤ 40) (hr : r.toInt ≤ 40) {t : Nat} (ht : t < 30) (f : Nat → Nat → Int) : bxT (gnd A t f) A t = bxT f A t - sum1 (fun o => if chB A t o = true then bxT f A o else 0) 30 := by
  have ch : ∀ o, o < 30 → chB A t o = true → geo c r A o ∧ inn A o t := fun o ho q => by
    obtain ⟨q1, q2⟩ := (chB_iff b (by omega)).mp q
    refine ⟨W.1 o ho q1, ?_⟩
    rcases W.2.1 o ho q1 with e | ⟨u, h1, h2, h3, h4, h5⟩
    · rw [q2] at e
      exact absurd e (nI_ne_neg (by omega))
    · rw [q2, nI_eq_iff (by omega) (by omega)] at h3
      rw [h3]; exact h5
  have e : sum1 (fun o => if chB A t o = true then bxT f A o else 0) 30 = all2 (fun i j => sum1 (fun o => if cvB A t i j o = true then f i j else 0) 30) := by
    rw [all2_sum (fun o i j => if cvB A t i j o = true then f i j else 0) 30]
    refine sum1_congr _ (fun o ho => ?_)
    by_cases q : chB A t o = true
    · rw [if_pos q]
      unfold bxT box
      refine all2_congr (fun i j _ _ => ?_)
      by_cases z : (cN A o 1 ≤ i ∧ i < cN A o 3) ∧ cN A o 2 ≤ j ∧ j < cN A o 4
      · rw [if_pos z, if_pos (cvB_iff.mpr ⟨q, z⟩)]
      · rw [if_neg z, if_neg (fun w => z (cvB_iff.mp w).2)]
    · rw [if_neg q]
      unfold all2 sum2
      exact (sum1_zero _ (fun j _ => sum1_zero _ (fun i _ => if_neg (fun w => q (cvB_iff.mp w).1)))).symm
  rw [e]
  unfold bxT box
  rw [← all2_sub]
  refine all2_congr (fun i j _ _ => ?_)
  rw [sum1_one (f i j) 30 (q := fun o => cvB A t i j o = true)]
  · unfold gnd
    by_cases z : ∃ o, o < 30 ∧ cvB A t i j o = true
    · rw [if_pos (anyB_iff.mpr z), if_pos z]
      obtain ⟨o, ho, qz⟩ := z
      obtain ⟨q, z⟩ := cvB_iff.mp qz
      obtain ⟨g, n⟩ := ch o ho q
      unfold inn at n
      unfold geo at g
      unfold cN at z ⊢
      rw [if_pos (by omega), if_pos (by omega)]
      omega
    · rw [if_neg (fun q => z (anyB_iff.mp q)), if_neg z]
      omega
  · intro o u ho hu qq1 qq2
    have q1 := cvB_iff.mp qq1
    have q2 := cvB_iff.mp qq2
    by_cases hne : o = u
    · exact hne
    · obtain ⟨a1, a2⟩ := (chB_iff b (by omega)).mp q1.1
      obtain ⟨b1, b2⟩ := (chB_iff b (by omega)).mp q2.1
      have g1 := (ch o ho q1.1).1
      have g2 := (ch u hu q2.1).1
      have c := W.2.2 o u ho hu hne a1 b1 (a2.trans b2.symm)
      have z1 := q1.2
      have z2 := q2.2
      unfold clr at c
      unfold geo at g1 g2
      unfold cN at z1 z2
      omega
theorem subF_iI {p : Nat → Bool} {g : Nat → Int32} {F : Nat → Int} : ∀ (n i : Nat) (z : Int), (∀ j, i ≤ j → j < i + n → p j = true → g j = iI (F j)) → subF p g (iI z) i n = iI (z - (sum1 (fun o => if p o = true then F o else 0) (i + n) - sum1 (fun o => if p o = true then F o else 0) i))
  | 0, i, z, _ => by
    simp only [subF, Nat.add_zero]
    congr 1
    omega
  | n + 1, i, z, h => by
    simp only [subF]
    have e : sum1 (fun o => if p o = true then F o else 0) (i + 1) = sum1 (fun o => if p o = true then F o else 0) i + (if p i = true then F i else 0) := rfl
    cases c : p i
    · rw [if_neg (by simp), subF_iI n (i + 1) z (fun j a b => h j (by omega) (by omega)), e, c, if_neg (by simp)]
      congr 1
      rw [show i + 1 + n = i + (n + 1) by omega]
      omega
    · rw [if_pos rfl, h i (by omega) (by omega) c, ← iI_sub, subF_iI n (i + 1) (z - F i) (fun j a b => h j (by omega) (by omega)), e, c, if_pos rfl]
      congr 1
      rw [show i + 1 + n = i + (n + 1) by omega]
      omega
theorem foldF_sum (g : Nat → Int) : ∀ (n i : Nat) (a : Int), foldF (fun i a => a + g i) a i n = a + sum1 (fun k => g (i + k)) n
  | 0, i, a => by simp [foldF, sum1]
  | n + 1, i, a => by
    simp only [foldF]
    rw [foldF_sum g n (i + 1) (a + g i)]
    have sh : ∀ n, sum1 (fun k => g (i + k)) (n + 1) = g i + sum1 (fun k => g (i + 1 + k)) n := by
      intro n
      induction n with
      | zero => simp [sum1]
      | succ n ih =>
        rw [sum1, ih]
        simp only [sum1]
        rw [show i + (n + 1) = i + 1 + n by omega]
        omega
    rw [sh n]
    omega
/-! the class's side -/
section GC
variable {G : GG} {d : Nat} {h : HP} {b s : Nat} {Q : Option Value → HP → Prop}
theorem s_groundOf (hd : 1 ≤ d) (kb : Kd G h b 11) (n2 : hR h b 12 = some s) (S : StSh G h s) {t : Nat} (ht : t < 31) (hQ : Q (some (.int (subF (chB (tg h s) t) (areaI (tg h s)) (areaI (tg h s) t) 0 30))) h) : Cal G d mX11_groundOf [.ref b, .int (nI t)] h Q := by
  have k9 := (S.2.2.2.2.2.2.1 t (by omega)).2
  refine e_X11_groundOf hd ⟨kb, s, n2, th_at S (t := t) (ti_nI (by omega)) (by omega) (s_area k9 ⟨_, rfl, ?_⟩)⟩
  have loop : ∀ n i a, i + n = 30 → Q (some (.int (subF (chB (tg h s) t) (areaI (tg h s)) a i n))) h → Ex G d mX11_groundOf 15 [(0, .ref b), (1, .int (nI t)), (2, .int a), (3, .int (nI i))] [] h Q := by
    intro n
    induction n with
    | zero =>
      intro i a hi hq
      obtain rfl : i = 30 := by omega
      exact t_X11_groundOf_15 hd ⟨fun _ => hq, fun q => absurd (show (30 : Int32) ≤ nI 30 by decide) q⟩
    | succ n ih =>
      intro i a hi hq
      have k9 := (S.2.2.2.2.2.2.1 i (by omega)).2
      simp only [subF] at hq
      refine t_X11_groundOf_15 hd ⟨fun q => absurd q (n30_not (by omega)), fun _ => ⟨kb, s, n2, th_at S (t := i) (ti_nI (by omega)) (by omega) ⟨fun w => ?_, fun w => th_in S (t := i) (ti_nI (by omega)) (by omega) ⟨fun w2 => ?_, fun w2 => th_in S (t := i) (ti_nI (by omega)) (by omega) (s_area k9 ⟨_, rfl, ?_⟩)⟩⟩⟩⟩
      · have e : chB (tg h s) t i = false := by simp [chB, wallB, tg, w]
        rw [e] at hq
        rw [nI_S]
        exact ih (i + 1) a (by omega) (by simpa using hq)
      · have e : chB (tg h s) t i = false := by simp [chB, wallB, tg, w2]
        rw [e] at hq
        rw [nI_S]
        exact ih (i + 1) a (by omega) (by simpa using hq)
      · have e : chB (tg h s) t i = true := by simp [chB, wallB, tg, w2, w]
        rw [e] at hq
        rw [nI_S]
        exact ih (i + 1) _ (by omega) (by simpa using hq)
  exact loop 30 0 _ rfl hQ
end GC
/-- a table of sums -/
def TabOK (h : HP) (T : Nat) (c r : Int) (f : Nat → Nat → Int) : Prop := ∀ x y : Nat, (x : Int) ≤ c → (y : Int) ≤ r → (hI h T (41 * y + x)).toInt = sum2 f x y
section TB
variable {G : GG} {d : Nat} {h : HP} {b s : Nat} {Q : Option Value → HP → Prop}
theorem s_inRect {U T : Nat} (k : Kd G h T 14) (hn : hN h T = 1681) {c r : Int} {f : Nat → Nat → Int} (hT : TabOK h T c r f) {x0 y0 x1 y1 : Nat} (h1 : x0 ≤ x1) (h2 : x1 ≤ 40) (h3 : y0 ≤ y1) (h4 : y1 ≤ 40) (hc : (x1 : Int) ≤ c) (hr : (y1 : Int) ≤ r) (hQ : Q (some (.int (iI (box f x0 y0 x1 y1)))) h) : Cal G d mX7_inRectangle [.ref U, .ref T, .int (nI x0), .int (nI y0), .int (nI x1), .int (nI y1)] h Q := by
  have e : ∀ x y : Nat, nI y * 41 + nI x = nI (41 * y + x) := fun x y => by
    show nI y * nI 41 + nI x = _
    rw [nM, nA, Nat.mul_comm]
  have v : ∀ x y : Nat, x ≤ 40 → y ≤ 40 → vp_in (nI y * 41 + nI x) (hN h T) := fun x y hx hy => by
    rw [e, hn]; exact vin_nI (by omega) (by omega)
  have t : ∀ x y : Nat, x ≤ x1 → y ≤ y1 → hI h T (nI y * 41 + nI x).toNatClampNeg = iI (sum2 f x y) := fun x y hx hy => by
    rw [e, cl_nI (by omega)]
    exact iI_of (hT x y (by omega) (by omega))
  refine e_X7_inRectangle ⟨k, v _ _ h2 h4, v _ _ (by omega) h4, v _ _ h2 (by omega), v _ _ (by omega) (by omega), ?_⟩
  rw [t x1 y1 (by omega) (by omega), t x0 y1 (by omega) (by omega), t x1 y0 (by omega) (by omega), t x0 y0 (by omega) (by omega), ← iI_sub, ← iI_sub, ← iI_add, ← box_pre f h1 h2 h3 h4]
  exact hQ
theorem s_inThing (hd : 1 ≤ d) {U T a : Nat} (k7 : Kd G h U 7) (k9 : Kd G h a 9) (k : Kd G h T 14) (hn : hN h T = 1681) {c r : Int} {f : Nat → Nat → Int} (hT : TabOK h T c r f) {x0 y0 x1 y1 : Nat} (e1 : hI h a 1 = nI x0) (e2 : hI h a 2 = nI y0) (e3 : hI h a 3 = nI x1) (e4 : hI h a 4 = nI y1) (h1 : x0 ≤ x1) (h2 : x1 ≤ 40) (h3 : y0 ≤ y1) (h4 : y1 ≤ 40) (hc : (x1 : Int) ≤ c) (hr : (y1 : Int) ≤ r) (hQ : Q (some (.int (iI (box f x0 y0 x1 y1)))) h) : Cal G d mX7_inThing [.ref U, .ref T, .ref a] h Q := by
  refine e_X7_inThing hd ⟨k9, k7, ?_⟩
  rw [e1, e2, e3, e4]
  exact s_inRect k hn hT h1 h2 h3 h4 hc hr ⟨_, rfl, hQ⟩
end TB
theorem geo.same {c r : Int32} {A A' : Nat → Nat → Int32} {t : Nat} (e : ∀ k, 1 ≤ k → k ≤ 4 → A' t k = A t k) (g : geo c r A t) : geo c r A' t := by
  unfold geo at g ⊢
  rw [e 1 (by omega) (by omega), e 2 (by omega) (by omega), e 3 (by omega) (by omega), e 4 (by omega) (by omega)]
  exact g
theorem bxT_same {A A' : Nat → Nat → Int32} {t : Nat} (f : Nat → Nat → Int) (e : ∀ k, 1 ≤ k → k ≤ 4 → A' t k = A t k) : bxT f A' t = bxT f A t := by
  unfold bxT cN
  rw [e 1 (by omega) (by omega), e 2 (by omega) (by omega), e 3 (by omega) (by omega), e 4 (by omega) (by omega)]
theorem InvB.tabs {G : GG} {u0 : Nat} {h : HP} {b y s p : Nat} (I : InvB G u0 h b y s p) {t : Nat} (ht : t < 30) (w : tS (said h y) t 0 = 1) : SumsOK h b (said h y) := by
  rcases I.2.2.2.2.2.1 with q | q
  · rw [q t ht] at w
    exact absurd w (by decide)
  · exact q
theorem SumsOK.w {h : HP} {b : Nat} {S : Nat → Int32} (H : SumsOK h b S) : TabOK h (b + 16) (S 0).toInt (S 1).toInt (wrt S) := fun x y hx hy => (H x y hx hy).1
theorem SumsOK.l {h : HP} {b : Nat} {S : Nat → Int32} (H : SumsOK h b S) : TabOK h (b + 17) (S 0).toInt (S 1).toInt (wel S) := fun x y hx hy => (H x y hx hy).2.1
theorem SumsOK.v {h : HP} {b : Nat} {S : Nat → Int32} (H : SumsOK h b S) : TabOK h (b + 18) (S 0).toInt (S 1).toInt (riv S) := fun x y hx hy => (H x y hx hy).2.2.1
theorem s_worthOf {G : GG} {d u0 : Nat} {h : HP} {b y s p : Nat} {Q : Option Value → HP → Prop} (hd : 2 ≤ d) (I : InvB G u0 h b y s p) {t : Nat} (ht : t < 30) (w : tS (said h y) t 0 = 1) (hQ : Q (some (.int (iI (bxT (wrt (said h y)) (tS (said h y)) t - sum1 (fun o => if chB (tS (said h y)) t o = true then bxT (wrt (said h y)) (tS (said h y)) o else 0) 30)))) h) : Cal G d mX11_worthOf [.ref b, .int (nI t)] h Q := by
  have B := I.bd
  have W := I.wf
  have S := I.st
  have kb := I.kb
  have n2 := I.now
  have H := (I.tabs ht w).w
  have dim := W.1.1
  unfold rng at dim
  obtain ⟨-, a1, a2, -⟩ : _ ∧ hR h b 6 = some (b + 15) ∧ Kd G h (b + 15) 7 ∧ hN h (b + 15) = 5 := I.1.2.2.1 (0, 6, 15, 7, 5) (by decide)
  obtain ⟨-, c1, c2, c3⟩ : _ ∧ hR h (b + 15) 0 = some (b + 16) ∧ Kd G h (b + 16) 14 ∧ hN h (b + 16) = 1681 := I.1.2.2.1 (15, 0, 16, 14, 1681) (by decide)
  have go : ∀ o, o < 30 → tS (said h y) o 0 = 1 → ∀ {Q' : Option Value → HP → Prop}, Q' (some (.int (iI (bxT (wrt (said h y)) (tS (said h y)) o)))) h → Cal G (d - 1) mX7_inThing [.ref (b + 15), .ref (b + 16), .ref (s + 5 + o)] h Q' := by
    intro o ho wo Q' q
    have g := W.2.2.2.2.1 o ho wo
    obtain ⟨⟨e1, e2, e3, e4⟩, ⟨h1, h2⟩, h3, h4⟩ := g.n dim.1.2 dim.2.1.2
    have t3 : (tS (said h y) o 3).toInt = cN (tS (said h y)) o 3 := by rw [e3, ti_nI (by omega)]
    have t4 : (tS (said h y) o 4).toInt = cN (tS (said h y)) o 4 := by rw [e4, ti_nI (by omega)]
    unfold geo at g
    exact s_inThing (by omega) a2 (S.2.2.2.2.2.2.1 o (by omega)).2 c2 c3 H ((B.th ho wo (by omega) (by omega)).trans e1) ((B.th ho wo (by omega) (by omega)).trans e2) ((B.th ho wo (by omega) (by omega)).trans e3) ((B.th ho wo (by omega) (by omega)).trans e4) (by omega) h2 (by omega) h4 (by omega) (by omega) q
  refine e_X11_worthOf (by omega) ⟨kb, b + 15, a1, a2, b + 16, c1, s, n2, S.1, s + 3, S.2.1.2.2.1, S.2.2.2.2.1.1, I.thA (by omega) (go t ht w ⟨_, rfl, ?_⟩)⟩
  have loop : ∀ n i z, i + n = 30 → Q (some (.int (iI (z - (sum1 (fun o => if chB (tS (said h y)) t o = true then bxT (wrt (said h y)) (tS (said h y)) o else 0) (i + n) - sum1 (fun o => if chB (tS (said h y)) t o = true then bxT (wrt (said h y)) (tS (said h y)) o else 0) i))))) h → Ex G d mX11_worthOf 26 [(0, .ref b), (1, .int (nI t)), (2, .int (iI z)), (3, .int (nI i))] [] h Q := by
    intro n
    induction n with
    | zero =>
      intro i z hi hq
      obtain rfl : i = 30 := by omega
      refine t_X11_worthOf_26 (by omega) ⟨fun _ => ?_, fun q => absurd (show (30 : Int32) ≤ nI 30 by decide) q⟩
      have e : z - (sum1 (fun o => if chB (tS (said h y)) t o = true then bxT (wrt (said h y)) (tS (said h y)) o else 0) (30 + 0) - sum1 (fun o => if chB (tS (said h y)) t o = true then bxT (wrt (said h y)) (tS (said h y)) o else 0) 30) = z := by
        rw [Nat.add_zero]; omega
      rw [e] at hq
      exact hq
    | succ n ih =>
      intro i z hi hq
      have es : sum1 (fun o => if chB (tS (said h y)) t o = true then bxT (wrt (said h y)) (tS (said h y)) o else 0) (i + 1) = sum1 (fun o => if chB (tS (said h y)) t o = true then bxT (wrt (said h y)) (tS (said h y)) o else 0) i + (if chB (tS (said h y)) t i = true then bxT (wrt (said h y)) (tS (said h y)) i else 0) := rfl
      have k9 := (S.2.2.2.2.2.2.1 i (by omega)).2
      have skip : ¬ (tS (said h y) i 0 = 1 ∧ tS (said h y) i 6 = nI t) → Ex G d mX11_worthOf 26 [(0, .ref b), (1, .int (nI t)), (2, .int (iI z)), (3, .int (nI i + 1))] [] h Q := fun c => by
        rw [nI_S]
        refine ih (i + 1) z (by omega) ?_
        rw [es, if_neg (fun q => c ((chB_iff W.2.2.1 (by omega)).mp q)), show i + 1 + n = i + (n + 1) by omega, Int.add_zero]
        exact hq
      refine t_X11_worthOf_26 (by omega) ⟨fun q => absurd q (n30_not (by omega)), fun _ => ⟨kb, s, n2, th_at S (t := i) (ti_nI (by omega)) (by omega) ⟨fun w0 => skip (fun q => ?_), fun w0 => th_in S (t := i) (ti_nI (by omega)) (by omega) ⟨fun w2 => skip (fun q => ?_), fun w2 => ⟨b + 15, a1, a2, b + 16, c1, I.thA (by omega) (go i (by omega) ?_ ⟨_, rfl, ?_⟩)⟩⟩⟩⟩⟩
      · have := (B.2.2.1.2.2.2.1 i (by omega)).1
        unfold tg at this
        rw [w0, q.1] at this
        exact absurd this (by decide)
      · have := B.th (t := i) (by omega) q.1 (k := 6) (by omega) (by omega)
        unfold tg at this
        exact w2 (this.trans q.2)
      · have e := (B.2.2.1.2.2.2.1 i (by omega)).1
        unfold tg at e
        rcases W.2.2.1 i (by omega) with q | q
        · rw [q] at e; exact absurd e w0
        · exact q
      · have wi : tS (said h y) i 0 = 1 := by
          have e := (B.2.2.1.2.2.2.1 i (by omega)).1
          unfold tg at e
          rcases W.2.2.1 i (by omega) with q | q
          · rw [q] at e; exact absurd e w0
          · exact q
        have w6 : tS (said h y) i 6 = nI t := (B.th (t := i) (by omega) wi (k := 6) (by omega) (by omega)).symm.trans w2
        rw [nI_S, ← iI_sub]
        refine ih (i + 1) _ (by omega) ?_
        rw [es, if_pos ((chB_iff W.2.2.1 (by omega)).mpr ⟨wi, w6⟩), show i + 1 + n = i + (n + 1) by omega]
        have e : ∀ a b c e : Int, a - b - (c - (e + b)) = a - (c - e) := fun _ _ _ _ => by omega
        rw [e]
        exact hq
  refine loop 30 0 _ rfl ?_
  have e : ∀ a c : Int, a - (c - sum1 (fun o => if chB (tS (said h y)) t o = true then bxT (wrt (said h y)) (tS (said h y)) o else 0) 0) = a - c := fun a c => by
    simp only [sum1]; omega
  rw [e]
  exact hQ
