/-! ===== building: what it does to things ===== -/
def bRow (x z tx tz f : Int32) (o : Int32) : Nat → Int32
  | 0 => 1
  | 1 => x
  | 2 => z
  | 3 => tx
  | 4 => tz
  | 5 => f
  | 6 => -1
  | 7 => -1
  | 8 => -1
  | 9 => -1
  | 10 => 0
  | _ => o
def buildA (A : Nat → Nat → Int32) (w : Nat) (x z tx tz f : Int32) (a : Nat) (ob : Option Nat) (u k : Nat) : Int32 := if u = w then bRow x z tx tz f (A w k) k else if k = 6 ∧ (u = a ∨ ob = some u) then nI w else A u k
/-- w is free, a and ob are outermost -/
def BlH (A : Nat → Nat → Int32) (w a : Nat) (ob : Option Nat) : Prop := (6 ≤ w ∧ w < 54 ∧ A w 0 = 0) ∧ (a < 54 ∧ A a 0 = 1 ∧ A a 6 = -1) ∧ ∀ b, ob = some b → b < 54 ∧ b ≠ a ∧ A b 0 = 1 ∧ A b 6 = -1
def BlE (A A' : Nat → Nat → Int32) (w : Nat) (x z tx tz f : Int32) (a : Nat) (ob : Option Nat) : Prop := ∀ u k, u < 54 → k < 12 → A' u k = buildA A w x z tx tz f a ob u k
section BL
variable {A A' : Nat → Nat → Int32} {w a : Nat} {x z tx tz f : Int32} {ob : Option Nat}
theorem BlH.ne (H : BlH A w a ob) {u : Nat} (h : A u 0 = 1) : u ≠ w := fun q => by
  rw [q, H.1.2.2] at h
  exact absurd h (by decide)
theorem BlE.at_ (E : BlE A A' w x z tx tz f a ob) (H : BlH A w a ob) {k : Nat} (hk : k < 12) : A' w k = bRow x z tx tz f (A w k) k := by
  rw [E w k H.1.2.1 hk]
  unfold buildA
  rw [if_pos rfl]
theorem BlE.k (E : BlE A A' w x z tx tz f a ob) {u k : Nat} (hu : u < 54) (hk : k < 12) (hw : u ≠ w) (h6 : k ≠ 6) : A' u k = A u k := by
  rw [E u k hu hk]
  unfold buildA
  rw [if_neg hw, if_neg (fun q => h6 q.1)]
theorem BlE.in_ (E : BlE A A' w x z tx tz f a ob) {u : Nat} (hu : u < 54) (hw : u ≠ w) (h : u = a ∨ ob = some u) : A' u 6 = nI w := by
  rw [E u 6 hu (by omega)]
  unfold buildA
  rw [if_neg hw, if_pos ⟨rfl, h⟩]
theorem BlE.out (E : BlE A A' w x z tx tz f a ob) {u : Nat} (hu : u < 54) (hw : u ≠ w) (h : ¬ (u = a ∨ ob = some u)) : A' u 6 = A u 6 := by
  rw [E u 6 hu (by omega)]
  unfold buildA
  rw [if_neg hw, if_neg (fun q => h q.2)]
theorem BlH.out (H : BlH A w a ob) {u : Nat} (h : u = a ∨ ob = some u) : A u 6 = -1 ∧ A u 0 = 1 ∧ u < 54 := by
  rcases h with rfl | h
  · exact ⟨H.2.1.2.2, H.2.1.2.1, H.2.1.1⟩
  · exact ⟨(H.2.2 u h).2.2.2, (H.2.2 u h).2.2.1, (H.2.2 u h).1⟩
theorem lies_neg (A : Nat → Nat → Int32) (o : Int32) (m : Nat) : liesF A o m (-1) = false := by
  cases m <;> simp [liesF]
theorem lies_nI (A : Nat → Nat → Int32) {o r : Nat} (ho : o < 2147483648) (hr : r < 2147483648) (m : Nat) : liesF A (nI o) (m + 1) (nI r) = (decide (r = o) || liesF A (nI o) m (A r 6)) := by
  simp only [liesF, if_neg (nI_ne_neg hr), cl_nI hr]
  by_cases e : r = o
  · rw [if_pos (by rw [e])]
    simp [e]
  · rw [if_neg (fun q => e ((nI_eq_iff hr ho).mp q))]
    simp [e]
theorem bl_lies_o (H : BlH A w a ob) (E : BlE A A' w x z tx tz f a ob) {o : Nat} (ho : o < 54) (hne : o ≠ w) : ∀ (n m m' : Nat) (p : Int32), endsT A 54 n p → n + 1 < m → n < m' → liesF A' (nI o) m p = liesF A (nI o) m' p
  | 0, m, m', p, h, _, _ => by
    obtain rfl : p = -1 := h
    rw [lies_neg, lies_neg]
  | n + 1, m, m', p, h, h1, h2 => by
    obtain ⟨m, rfl⟩ : ∃ k, m = k + 1 := ⟨m - 1, by omega⟩
    obtain ⟨m', rfl⟩ : ∃ k, m' = k + 1 := ⟨m' - 1, by omega⟩
    rcases h with rfl | ⟨r, rfl, h3, h0, h4⟩
    · rw [lies_neg, lies_neg]
    · have rw' := H.ne h0
      have hw := H.1.2.1
      rw [lies_nI A' (by omega) (by omega), lies_nI A (by omega) (by omega)]
      by_cases c : r = a ∨ ob = some r
      · obtain ⟨m, rfl⟩ : ∃ k, m = k + 1 := ⟨m - 1, by omega⟩
        rw [E.in_ h3 rw' c, (H.out c).1, lies_neg, lies_nI A' (by omega) (by omega), E.at_ H (by omega)]
        simp only [bRow]
        rw [lies_neg]
        have hne' : ¬ w = o := fun q => hne q.symm
        simp [hne']
        try exact fun q => absurd q hne'
      · rw [E.out h3 rw' c, bl_lies_o H E ho hne n m m' _ h4 (by omega) (by omega)]
def liesO (A : Nat → Nat → Int32) (m : Nat) (p : Int32) : Option Nat → Bool
  | none => false
  | some b => liesF A (nI b) m p
theorem liesO_neg (A : Nat → Nat → Int32) (m : Nat) (ob : Option Nat) : liesO A m (-1) ob = false := by
  cases ob with
  | none => rfl
  | some b => exact lies_neg A _ m
theorem bl_lies_w (H : BlH A w a ob) (E : BlE A A' w x z tx tz f a ob) : ∀ (n m m' : Nat) (p : Int32), endsT A 54 n p → n + 1 < m → n < m' → liesF A' (nI w) m p = (liesF A (nI a) m' p || liesO A m' p ob)
  | 0, m, m', p, h, _, _ => by
    obtain rfl : p = -1 := h
    rw [lies_neg, lies_neg, liesO_neg]
    rfl
  | n + 1, m, m', p, h, h1, h2 => by
    obtain ⟨m, rfl⟩ : ∃ k, m = k + 1 := ⟨m - 1, by omega⟩
    obtain ⟨m', rfl⟩ : ∃ k, m' = k + 1 := ⟨m' - 1, by omega⟩
    rcases h with rfl | ⟨r, rfl, h3, h0, h4⟩
    · rw [lies_neg, lies_neg, liesO_neg]
      rfl
    · have rw' := H.ne h0
      have hw := H.1.2.1
      have ha := H.2.1.1
      rw [lies_nI A' (by omega) (by omega), lies_nI A (by omega) (by omega)]
      have r1 : decide (r = w) = false := by simp [rw']
      rw [r1, Bool.false_or]
      by_cases c : r = a ∨ ob = some r
      · obtain ⟨m, rfl⟩ : ∃ k, m = k + 1 := ⟨m - 1, by omega⟩
        rw [E.in_ h3 rw' c, lies_nI A' (by omega) (by omega)]
        rcases c with c | c
        · simp [c]
        · subst c
          simp only [liesO]
          rw [lies_nI A (by omega) (by omega)]
          simp
      · rw [E.out h3 rw' c, bl_lies_w H E n m m' _ h4 (by omega) (by omega)]
        have r2 : decide (r = a) = false := decide_eq_false (fun q => c (Or.inl q))
        rw [r2, Bool.false_or]
        cases ob with
        | none => rfl
        | some b =>
          have hb := (H.2.2 b rfl).1
          simp only [liesO]
          rw [lies_nI A (by omega) (by omega)]
          have r3 : decide (r = b) = false := by
            have : r ≠ b := fun q => c (Or.inr (by rw [q]))
            simp [this]
          rw [r3, Bool.false_or]
theorem both_lie {A : Nat → Nat → Int32} {a b : Nat} (ha : a < 54) (hb : b < 54) (a6 : A a 6 = -1) (b6 : A b 6 = -1) : ∀ (n m m' : Nat) (p : Int32), endsT A 54 n p → liesF A (nI a) m p = true → liesF A (nI b) m' p = true → a = b
  | 0, m, m', p, h, h1, _ => by
    obtain rfl : p = -1 := h
    rw [lies_neg] at h1
    cases h1
  | n + 1, 0, m', p, h, h1, h2 => by cases h1
  | n + 1, m + 1, 0, p, h, h1, h2 => by cases h2
  | n + 1, m + 1, m' + 1, p, h, h1, h2 => by
    rcases h with rfl | ⟨r, rfl, h3, h0, h4⟩
    · rw [lies_neg] at h1
      cases h1
    · rw [lies_nI A (by omega) (by omega)] at h1 h2
      by_cases c1 : r = a
      · by_cases c2 : r = b
        · rw [← c1, ← c2]
        · subst c1
          rw [a6, lies_neg] at h2
          simp [c2] at h2
      · by_cases c2 : r = b
        · subst c2
          rw [b6, lies_neg] at h1
          simp [c1] at h1
        · simp [c1] at h1
          simp [c2] at h2
          exact both_lie ha hb a6 b6 n m m' _ h4 h1 h2
theorem cntF_or {p q : Nat → Bool} : ∀ (n i : Nat), (∀ j, i ≤ j → j < i + n → ¬ (p j = true ∧ q j = true)) → cntF (fun j => p j || q j) i n = cntF p i n + cntF q i n
  | 0, _, _ => rfl
  | n + 1, i, h => by
    simp only [cntF]
    rw [cntF_or n (i + 1) (fun j h1 h2 => h j (by omega) (by omega))]
    have := h i (by omega) (by omega)
    by_cases hp : p i = true <;> by_cases hq : q i = true
    · exact absurd ⟨hp, hq⟩ this
    all_goals simp [hp, hq]
    all_goals omega
theorem cntF_one {c : Nat} : ∀ (n i : Nat), cntF (fun j => decide (j = c)) i n = if i ≤ c ∧ c < i + n then 1 else 0
  | 0, i => by
    rw [if_neg (by omega)]
    rfl
  | n + 1, i => by
    simp only [cntF]
    rw [cntF_one n (i + 1)]
    by_cases e : i = c
    · subst e
      have n1 : ¬ (i + 1 ≤ i ∧ i < i + 1 + n) := by omega
      have n2 : i ≤ i ∧ i < i + (n + 1) := by omega
      rw [if_neg n1, if_pos n2]
      simp
    · by_cases q : i ≤ c ∧ c < i + (n + 1)
      · have n1 : i + 1 ≤ c ∧ c < i + 1 + n := by omega
        rw [if_pos n1, if_pos q]
        simp [e]
      · have n1 : ¬ (i + 1 ≤ c ∧ c < i + 1 + n) := by omega
        rw [if_neg n1, if_neg q]
        simp [e]
/-- how deep: a thing and what is in it -/
def drN (A : Nat → Nat → Int32) (t : Nat) : Nat := (if 6 ≤ t then 1 else 0) + deepN A 31 (nI t)
def drO (A : Nat → Nat → Int32) : Option Nat → Nat
  | none => 0
  | some t => drN A t
theorem bl_deep_o {c r : Int32} (W : WfT 54 c r A) (hc : c.toInt ≤ 40) (b : bin A) (H : BlH A w a ob) (E : BlE A A' w x z tx tz f a ob) {o : Nat} (ho : o < 54) (hne : o ≠ w) : deepN A' 31 (nI o) = deepN A 31 (nI o) := by
  unfold deepN
  refine cntF_congr 48 6 (fun v h1 h2 => ?_)
  have hw := H.1.2.1
  by_cases vw : v = w
  · subst vw
    have e1 : wallB A v = false := by unfold wallB; rw [H.1.2.2]; decide
    rw [e1, E.at_ H (by omega)]
    simp only [bRow]
    rw [lies_neg, Bool.and_false, Bool.false_and]
  · have e0 : wallB A' v = wallB A v := by
      unfold wallB
      rw [E.k (by omega) (by omega) vw (by omega)]
    rw [e0]
    cases q : wallB A v with
    | false => rw [Bool.false_and, Bool.false_and]
    | true =>
      have v0 := (b.w (by omega)).mpr q
      have et := W.endsT hc (show v < 54 by omega) v0
      by_cases c : v = a ∨ ob = some v
      · rw [E.in_ (by omega) vw c, (H.out c).1, lies_neg, lies_nI A' (by omega) (by omega), E.at_ H (by omega)]
        simp only [bRow]
        rw [lies_neg]
        have hne' : ¬ w = o := fun q => hne q.symm
        simp [hne']
        try exact fun q => absurd q hne'
      · rw [E.out (by omega) vw c, bl_lies_o H E ho hne 20 31 31 _ et (by omega) (by omega)]
theorem drN_cnt {A : Nat → Nat → Int32} (b : bin A) {t : Nat} (ht : t < 54) (t0 : A t 0 = 1) (t6 : A t 6 = -1) : cntF (fun v => wallB A v && (decide (v = t) || liesF A (nI t) 31 (A v 6))) 6 48 = drN A t := by
  have e1 : cntF (fun v => wallB A v && (decide (v = t) || liesF A (nI t) 31 (A v 6))) 6 48 = cntF (fun v => decide (v = t) || (wallB A v && liesF A (nI t) 31 (A v 6))) 6 48 := by
    refine cntF_congr 48 6 (fun v h1 h2 => ?_)
    by_cases e : v = t
    · subst e
      rw [(b.w ht).mp t0]
      simp
    · simp [e]
  rw [e1, cntF_or 48 6 (fun j h1 h2 q => ?_), cntF_one]
  · unfold drN deepN
    by_cases h6 : 6 ≤ t
    · rw [if_pos ⟨h6, by omega⟩, if_pos h6]
    · rw [if_neg (fun q => h6 q.1), if_neg h6]
  · obtain ⟨q1, q2⟩ := q
    have : j = t := by simpa using q1
    subst this
    rw [t6, lies_neg, Bool.and_false] at q2
    cases q2
theorem bl_deep_w {c r : Int32} (W : WfT 54 c r A) (hc : c.toInt ≤ 40) (b : bin A) (H : BlH A w a ob) (E : BlE A A' w x z tx tz f a ob) : deepN A' 31 (nI w) = drN A a + drO A ob := by
  have hw := H.1.2.1
  have ha := H.2.1.1
  have e1 : deepN A' 31 (nI w) = cntF (fun v => (wallB A v && (decide (v = a) || liesF A (nI a) 31 (A v 6))) || (wallB A v && (decide (ob = some v) || liesO A 31 (A v 6) ob))) 6 48 := by
    unfold deepN
    refine cntF_congr 48 6 (fun v h1 h2 => ?_)
    by_cases vw : v = w
    · subst vw
      have e1 : wallB A v = false := by unfold wallB; rw [H.1.2.2]; decide
      rw [e1, E.at_ H (by omega)]
      simp only [bRow]
      rw [lies_neg, Bool.and_false, Bool.false_and, Bool.false_and, Bool.false_or]
    · have e0 : wallB A' v = wallB A v := by
        unfold wallB
        rw [E.k (by omega) (by omega) vw (by omega)]
      rw [e0]
      cases q : wallB A v with
      | false => rw [Bool.false_and, Bool.false_and, Bool.false_and, Bool.false_or]
      | true =>
        have v0 := (b.w (by omega)).mpr q
        have et := W.endsT hc (show v < 54 by omega) v0
        rw [Bool.true_and, Bool.true_and, Bool.true_and]
        by_cases c : v = a ∨ ob = some v
        · rw [E.in_ (by omega) vw c, lies_nI A' (by omega) (by omega)]
          rcases c with c | c
          · simp [c]
          · simp [c]
        · have n1 : ¬ v = a := fun q => c (Or.inl q)
          have n2 : ¬ ob = some v := fun q => c (Or.inr q)
          rw [E.out (by omega) vw c, bl_lies_w H E 20 31 31 _ et (by omega) (by omega), decide_eq_false n1, decide_eq_false n2, Bool.false_or, Bool.false_or]
  rw [e1, cntF_or 48 6 (fun v h1 h2 q => ?_), drN_cnt b ha H.2.1.2.1 H.2.1.2.2]
  · cases ob with
    | none =>
      have : cntF (fun v => wallB A v && (decide ((none : Option Nat) = some v) || liesO A 31 (A v 6) none)) 6 48 = 0 := cntF_none 48 6 (fun v _ _ => by
        simp only [liesO]
        rw [decide_eq_false (fun q => by cases q), Bool.false_or, Bool.and_false])
      rw [this]
      rfl
    | some d =>
      obtain ⟨b1, b2, b3, b4⟩ := H.2.2 d rfl
      have : cntF (fun v => wallB A v && (decide (some d = some v) || liesO A 31 (A v 6) (some d))) 6 48 = drN A d := by
        rw [← drN_cnt b b1 b3 b4]
        refine cntF_congr 48 6 (fun v _ _ => ?_)
        simp only [liesO]
        have : decide (some d = some v) = decide (v = d) := by
          by_cases e : v = d
          · simp [e]
          · rw [decide_eq_false e, decide_eq_false (fun q => e (Option.some.inj q).symm)]
        rw [this]
      rw [this]
      rfl
  · cases ob with
    | none =>
      have q2 := q.2
      simp only [liesO] at q2
      rw [decide_eq_false (fun q => by cases q), Bool.false_or, Bool.and_false] at q2
      cases q2
    | some d =>
      obtain ⟨b1, b2, b3, b4⟩ := H.2.2 d rfl
      obtain ⟨q1, q2⟩ := q
      rw [Bool.and_eq_true] at q1 q2
      have v0 := (b.w (show v < 54 by omega)).mpr q1.1
      have et := W.endsT hc (show v < 54 by omega) v0
      have q1 := q1.2
      have q2 := q2.2
      rw [Bool.or_eq_true] at q1 q2
      simp only [liesO] at q2
      rcases q1 with q1 | q1
      · have e : v = a := by simpa using q1
        rw [e, H.2.1.2.2, lies_neg] at q2
        rcases q2 with q2 | q2
        · have : some d = some a := by simpa using q2
          exact b2 (Option.some.inj this)
        · cases q2
      · rcases q2 with q2 | q2
        · have : some d = some v := by simpa using q2
          have e := Option.some.inj this
          subst e
          rw [b4, lies_neg] at q1
          cases q1
        · exact b2 (both_lie ha b1 H.2.1.2.2 b4 20 31 31 _ et q1 q2).symm
/-- things with w built -/
theorem bl_wft {M : Nat} (hM : M ≤ 54) {c r : Int32} (W : WfT M c r A) (H : BlH A w a ob) (hwM : w < M) (haM : a < M) (hbM : ∀ b, ob = some b → b < M) (E : BlE A A' w x z tx tz f a ob) (hl : hldP c r x z tx tz) (ga : 1 ≤ gapA A x z tx tz a) (gb : ∀ b, ob = some b → 1 ≤ gapA A x z tx tz b) (cl : ∀ t, t < M → A t 0 = 1 → A t 6 = -1 → t ≠ a → ob ≠ some t → (tx.toInt < (A t 1).toInt ∨ (A t 3).toInt < x.toInt ∨ tz.toInt < (A t 2).toInt ∨ (A t 4).toInt < z.toInt)) : WfT M c r A' := by
  have w1 : A' w 1 = x := E.at_ H (by omega)
  have w2 : A' w 2 = z := E.at_ H (by omega)
  have w3 : A' w 3 = tx := E.at_ H (by omega)
  have w4 : A' w 4 = tz := E.at_ H (by omega)
  have w6 : A' w 6 = -1 := E.at_ H (by omega)
  have w0 : A' w 0 = 1 := E.at_ H (by omega)
  have ek : ∀ u k, u < M → u ≠ w → k ≤ 4 → A' u k = A u k := fun u k hu hw hk => E.k (by omega) (by omega) hw (by omega)
  have inw : ∀ t, (t = a ∨ ob = some t) → inn A' t w := fun t q => by
    have lt : t < M := by
      rcases q with q | q
      · omega
      · exact hbM t q
    have tw : t ≠ w := H.ne (H.out q).2.1
    have g : 1 ≤ gapA A x z tx tz t := by
      rcases q with q | q
      · rw [q]; exact ga
      · exact gb t q
    unfold inn
    rw [w1, w2, w3, w4, ek t 1 lt tw (by omega), ek t 2 lt tw (by omega), ek t 3 lt tw (by omega), ek t 4 lt tw (by omega)]
    unfold gapA at g
    omega
  have noW : ∀ u, u < M → A u 0 = 1 → ¬ A u 6 = nI w := fun u hu u0 q => by
    rcases W.2.1 u hu u0 with e | ⟨v, h1, h2, h3, h4, h5⟩
    · rw [q] at e
      exact absurd e (nI_ne_neg (by omega))
    · rw [q, nI_eq_iff (by omega) (by omega)] at h3
      exact H.ne h4 h3.symm
  have cw : ∀ u, u < M → u ≠ w → A u 0 = 1 → A' u 6 = -1 → clr A' w u := fun u hu uw u0 u6 => by
    have no : ¬ (u = a ∨ ob = some u) := fun q => by
      rw [E.in_ (by omega) uw q] at u6
      exact absurd u6 (nI_ne_neg (by omega))
    rw [E.out (by omega) uw no] at u6
    have := cl u hu u0 u6 (fun q => no (Or.inl q)) (fun q => no (Or.inr q))
    unfold clr
    rw [w1, w2, w3, w4, ek u 1 hu uw (by omega), ek u 2 hu uw (by omega), ek u 3 hu uw (by omega), ek u 4 hu uw (by omega)]
    omega
  refine ⟨fun t ht q => ?_, fun t ht q => ?_, fun t u ht hu hne q1 q2 q3 => ?_⟩
  · by_cases tw : t = w
    · subst tw
      unfold hldP at hl
      unfold geo
      rw [w1, w2, w3, w4]
      omega
    · have q' : A t 0 = 1 := by rw [← ek t 0 ht tw (by omega)]; exact q
      exact (W.1 t ht q').same (fun k h1 h4 => ek t k ht tw h4)
  · by_cases tw : t = w
    · subst tw
      exact Or.inl w6
    · have q' : A t 0 = 1 := by rw [← ek t 0 ht tw (by omega)]; exact q
      by_cases c : t = a ∨ ob = some t
      · exact Or.inr ⟨w, H.1.1, hwM, E.in_ (by omega) tw c, w0, inw t c⟩
      · rw [E.out (by omega) tw c]
        rcases W.2.1 t ht q' with e | ⟨v, h1, h2, h3, h4, h5⟩
        · exact Or.inl e
        · have vw : v ≠ w := H.ne h4
          refine Or.inr ⟨v, h1, h2, h3, by rw [ek v 0 h2 vw (by omega)]; exact h4, ?_⟩
          unfold inn
          rw [ek v 1 h2 vw (by omega), ek v 2 h2 vw (by omega), ek v 3 h2 vw (by omega), ek v 4 h2 vw (by omega), ek t 1 ht tw (by omega), ek t 2 ht tw (by omega), ek t 3 ht tw (by omega), ek t 4 ht tw (by omega)]
          exact h5
  · by_cases tw : t = w
    · subst tw
      have u0 : A u 0 = 1 := by rw [← ek u 0 hu (fun q => hne q.symm) (by omega)]; exact q2
      exact cw u hu (fun q => hne q.symm) u0 (q3.symm.trans w6)
    · by_cases uw : u = w
      · subst uw
        have t0 : A t 0 = 1 := by rw [← ek t 0 ht tw (by omega)]; exact q1
        exact clr_symm (cw t ht tw t0 (q3.trans w6))
      · have t0 : A t 0 = 1 := by rw [← ek t 0 ht tw (by omega)]; exact q1
        have u0 : A u 0 = 1 := by rw [← ek u 0 hu uw (by omega)]; exact q2
        have same : A t 6 = A u 6 := by
          by_cases c1 : t = a ∨ ob = some t
          · by_cases c2 : u = a ∨ ob = some u
            · rw [(H.out c1).1, (H.out c2).1]
            · rw [E.in_ (by omega) tw c1, E.out (by omega) uw c2] at q3
              exact absurd q3.symm (noW u hu u0)
          · by_cases c2 : u = a ∨ ob = some u
            · rw [E.in_ (by omega) uw c2, E.out (by omega) tw c1] at q3
              exact absurd q3 (noW t ht t0)
            · rw [E.out (by omega) tw c1, E.out (by omega) uw c2] at q3
              exact q3
        have := W.2.2 t u ht hu hne t0 u0 same
        unfold clr
        rw [ek u 1 hu uw (by omega), ek u 2 hu uw (by omega), ek u 3 hu uw (by omega), ek u 4 hu uw (by omega), ek t 1 ht tw (by omega), ek t 2 ht tw (by omega), ek t 3 ht tw (by omega), ek t 4 ht tw (by omega)]
        exact this
end BL
