/-! ===== what is there; gates and keys ===== -/
def isT (S : Nat → Int32) (x : Int32) : Prop := ∃ t, t < 30 ∧ x = nI t ∧ tS S t 0 = 1
def isW (S : Nat → Int32) (x : Int32) : Prop := ∃ t, 6 ≤ t ∧ t < 30 ∧ x = nI t ∧ tS S t 0 = 1
/-- a State and the reference, coupled -/
def Bd (G : GG) (h : HP) (y s : Nat) : Prop := StSh G h s ∧ MdSh G h y ∧ CoSt h s (said h y) ∧ WF (said h y)
theorem InvB.bd {G : GG} {u0 : Nat} {h : HP} {b y s p : Nat} (I : InvB G u0 h b y s p) : Bd G h y s := ⟨I.2.1.2.2.2.1, I.1.2.2.2.1, I.2.2.1, I.2.2.2.1⟩
theorem Bd.wall {G : GG} {h : HP} {y s : Nat} (B : Bd G h y s) {t : Nat} (ht : t < 30) : wallB (tg h s) t = true ↔ tS (said h y) t 0 = 1 := by
  have e := (B.2.2.1.2.2.2.1 t ht).1
  have b := B.2.2.2.2.2.1.w (show t < 54 by omega)
  unfold wallB at b ⊢
  rw [e]
  exact b.symm
theorem Bd.wallR {G : GG} {h : HP} {y s : Nat} (B : Bd G h y s) {t : Nat} (ht : t < 30) : wallB (sd h y) t = true ↔ tS (said h y) t 0 = 1 := (B.2.2.2.2.2.1.w (show t < 54 by omega)).symm
theorem Bd.th {G : GG} {h : HP} {y s : Nat} (B : Bd G h y s) {t : Nat} (ht : t < 30) (h0 : tS (said h y) t 0 = 1) {k : Nat} (h1 : 1 ≤ k) (h6 : k ≤ 6) : tg h s t k = tS (said h y) t k := ((B.2.2.1.2.2.2.1 t ht).2 h0).1 k h1 h6
section GT
variable {G : GG} {d : Nat} {h : HP} {y s : Nat} {Q : Option Value → HP → Prop}
theorem c_isThere (B : Bd G h y s) {x : Int32} (h0 : ¬ isT (said h y) x → Q (some (.int 0)) h) (h1 : ∀ t, t < 30 → x = nI t → tS (said h y) t 0 = 1 → Q (some (.int 1)) h) : Cal G d mX6_isThere [.ref s, .int x] h Q := by
  refine s_isThere B.1 (fun c => h0 ?_) (fun t e ht => ?_)
  · rintro ⟨t, ht, rfl, -⟩
    exact c (by rw [ti_nI (by omega)]; omega)
  · by_cases hw : wallB (tg h s) t = true
    · rw [if_pos hw]
      exact h1 t ht e ((B.wall ht).mp hw)
    · rw [if_neg hw]
      refine h0 ?_
      rintro ⟨t', ht', e', w⟩
      rw [e, nI_eq_iff (by omega) (by omega)] at e'
      subst e'
      exact hw ((B.wall ht).mpr w)
theorem c_isWall (B : Bd G h y s) (hd : 1 ≤ d) {x : Int32} (h0 : ¬ isW (said h y) x → Q (some (.int 0)) h) (h1 : ∀ t, 6 ≤ t → t < 30 → x = nI t → tS (said h y) t 0 = 1 → Q (some (.int 1)) h) : Cal G d mX6_isWall [.ref s, .int x] h Q := by
  refine s_isWall hd B.1 (fun c => h0 ?_) (fun t e h6 ht => ?_)
  · rintro ⟨t, h6, ht, rfl, -⟩
    exact c (by rw [ti_nI (by omega)]; omega)
  · by_cases hw : wallB (tg h s) t = true
    · rw [if_pos hw]
      exact h1 t h6 ht e ((B.wall ht).mp hw)
    · rw [if_neg hw]
      refine h0 ?_
      rintro ⟨t', h6', ht', e', w⟩
      rw [e, nI_eq_iff (by omega) (by omega)] at e'
      subst e'
      exact hw ((B.wall ht).mpr w)
end GT
section GR
variable {G : GG} {d : Nat} {h : HP} {y : Nat} {Q : Option Value → HP → Prop}
theorem m_isThing (M : MdSh G h y) (W : WF (said h y)) (hd : 2 ≤ d) {x : Int32} (h0 : ¬ isT (said h y) x → Q (some (.int 0)) h) (h1 : ∀ t, t < 30 → x = nI t → tS (said h y) t 0 = 1 → Q (some (.int 1)) h) : Cal G d mX12_isThing [.ref y, .int x] h Q := by
  refine r_isThing hd M W.2.2.1 (fun c => h0 ?_) (fun t e ht => ?_)
  · rintro ⟨t, ht, rfl, -⟩
    exact c (by rw [ti_nI (by omega)]; omega)
  · by_cases hw : wallB (sd h y) t = true
    · rw [if_pos hw]
      exact h1 t ht e ((W.2.2.1.w (by omega)).mpr hw)
    · rw [if_neg hw]
      refine h0 ?_
      rintro ⟨t', ht', e', w⟩
      rw [e, nI_eq_iff (by omega) (by omega)] at e'
      subst e'
      exact hw ((W.2.2.1.w (by omega)).mp w)
theorem m_isWall (M : MdSh G h y) (W : WF (said h y)) (hd : 3 ≤ d) {x : Int32} (h0 : ¬ isW (said h y) x → Q (some (.int 0)) h) (h1 : ∀ t, 6 ≤ t → t < 30 → x = nI t → tS (said h y) t 0 = 1 → Q (some (.int 1)) h) : Cal G d mX12_isWall [.ref y, .int x] h Q := by
  refine r_isWall hd M W.2.2.1 (fun c => h0 ?_) (fun t e h6 ht => ?_)
  · rintro ⟨t, h6, ht, rfl, -⟩
    exact c (by rw [ti_nI (by omega)]; omega)
  · by_cases hw : wallB (sd h y) t = true
    · rw [if_pos hw]
      exact h1 t h6 ht e ((W.2.2.1.w (by omega)).mpr hw)
    · rw [if_neg hw]
      refine h0 ?_
      rintro ⟨t', h6', ht', e', w⟩
      rw [e, nI_eq_iff (by omega) (by omega)] at e'
      subst e'
      exact hw ((W.2.2.1.w (by omega)).mp w)
end GR
theorem isW.of {S : Nat → Int32} {t : Nat} (h6 : 6 ≤ t) (ht : t < 30) (h0 : tS S t 0 = 1) : isW S (nI t) := ⟨t, h6, ht, rfl, h0⟩
theorem isT.of {S : Nat → Int32} {t : Nat} (ht : t < 30) (h0 : tS S t 0 = 1) : isT S (nI t) := ⟨t, ht, rfl, h0⟩
/-! chains by things that are there -/
def endsT (A : Nat → Nat → Int32) (b : Nat) : Nat → Int32 → Prop
  | 0, p => p = -1
  | n + 1, p => p = -1 ∨ ∃ r, p = nI r ∧ r < b ∧ A r 0 = 1 ∧ endsT A b n (A r 6)
theorem endsT.mono {A : Nat → Nat → Int32} {b b' : Nat} (hb : b ≤ b') : ∀ {n m : Nat} {p : Int32}, endsT A b n p → n ≤ m → endsT A b' m p
  | 0, 0, _, h, _ => h
  | 0, _ + 1, _, h, _ => Or.inl h
  | n + 1, 0, _, _, hm => absurd hm (by omega)
  | n + 1, m + 1, p, h, hm => by
    rcases h with h | ⟨r, h1, h2, h0, h3⟩
    · exact Or.inl h
    · exact Or.inr ⟨r, h1, by omega, h0, h3.mono hb (by omega)⟩
theorem endsT.congr {A A' : Nat → Nat → Int32} {b : Nat} (e0 : ∀ r, r < b → A r 0 = 1 → A' r 0 = 1) (e : ∀ r, r < b → A r 0 = 1 → A' r 6 = A r 6) : ∀ {n : Nat} {p : Int32}, endsT A b n p → endsT A' b n p
  | 0, _, h => h
  | n + 1, p, h => by
    rcases h with h | ⟨r, h1, h2, h0, h3⟩
    · exact Or.inl h
    · refine Or.inr ⟨r, h1, h2, e0 r h2 h0, ?_⟩
      rw [e r h2 h0]
      exact h3.congr e0 e
theorem endsT.toF {A : Nat → Nat → Int32} {b : Nat} : ∀ {n : Nat} {p : Int32}, endsT A b n p → endsF A b n p
  | 0, _, h => h
  | n + 1, p, h => by
    rcases h with h | ⟨r, h1, h2, h0, h3⟩
    · exact Or.inl h
    · exact Or.inr ⟨r, h1, h2, h3.toF⟩
theorem liesT_congr {A A' : Nat → Nat → Int32} {b : Nat} (hb : b < 2147483648) (e : ∀ r, r < b → A r 0 = 1 → A' r 6 = A r 6) (o : Int32) : ∀ (m n : Nat) (p : Int32), endsT A b n p → liesF A' o m p = liesF A o m p
  | 0, _, _, _ => rfl
  | m + 1, 0, p, h => by
    obtain rfl : p = -1 := h
    rfl
  | m + 1, n + 1, p, h => by
    rcases h with rfl | ⟨r, rfl, h2, h0, h3⟩
    · rfl
    · simp only [liesF, cl_nI (show r < 2147483648 by omega), e r h2 h0]
      rw [liesT_congr hb e o m n _ h3]
theorem rndT_congr {A A' : Nat → Nat → Int32} {b : Nat} (hb : b < 2147483648) (e : ∀ r, r < b → A r 0 = 1 → A' r 6 = A r 6) : ∀ (m n : Nat) (p : Int32), endsT A b n p → rndF A' m p = rndF A m p
  | 0, _, _, _ => rfl
  | m + 1, 0, p, h => by
    obtain rfl : p = -1 := h
    rfl
  | m + 1, n + 1, p, h => by
    rcases h with rfl | ⟨r, rfl, h2, h0, h3⟩
    · rfl
    · simp only [rndF, cl_nI (show r < 2147483648 by omega), e r h2 h0]
      rw [rndT_congr hb e m n _ h3]
theorem WfT.chainT {M : Nat} {c r : Int32} {A : Nat → Nat → Int32} (W : WfT M c r A) (hc : c.toInt ≤ 40) : ∀ (n t : Nat), t < M → A t 0 = 1 → 40 ≤ wdt A t + 2 * n + 1 → endsT A M n (A t 6)
  | 0, t, ht, h0, hn => by
    rcases W.2.1 t ht h0 with h | ⟨u, h1, h2, h3, h4, h5⟩
    · exact h
    · have g := W.1 u h2 h4
      unfold inn at h5
      unfold geo at g
      unfold wdt at hn
      omega
  | n + 1, t, ht, h0, hn => by
    rcases W.2.1 t ht h0 with h | ⟨u, h1, h2, h3, h4, h5⟩
    · exact Or.inl h
    · refine Or.inr ⟨u, h3, h2, h4, W.chainT hc n u h2 h4 ?_⟩
      unfold inn at h5
      unfold wdt at hn ⊢
      omega
theorem WfT.endsT {M : Nat} {c r : Int32} {A : Nat → Nat → Int32} (W : WfT M c r A) (hc : c.toInt ≤ 40) {t : Nat} (ht : t < M) (h0 : A t 0 = 1) : endsT A M 20 (A t 6) := by
  refine W.chainT hc 20 t ht h0 ?_
  have g := W.1 t ht h0
  unfold geo at g
  unfold wdt
  omega
theorem WF.endsT {S : Nat → Int32} (W : WF S) {t : Nat} (ht : t < 30) (h0 : tS S t 0 = 1) : endsT (tS S) 30 20 (tS S t 6) := W.2.2.2.2.endsT W.1.1.1.2 ht h0
theorem Bd.endC {G : GG} {h : HP} {y s : Nat} (B : Bd G h y s) {t : Nat} (ht : t < 30) (h0 : tS (said h y) t 0 = 1) : endsF (tg h s) 31 30 (tg h s t 6) := by
  rw [B.th ht h0 (by omega) (by omega)]
  have e := B.2.2.2.endsT ht h0
  exact ((e.congr (A' := tg h s) (fun r hr h0 => ((B.2.2.1.2.2.2.1 r hr).1.trans h0)) (fun r hr h0 => B.th hr h0 (by omega) (by omega))).toF).mono (by omega) (by omega)
theorem Bd.lies {G : GG} {h : HP} {y s : Nat} (B : Bd G h y s) {t : Nat} (ht : t < 30) (h0 : tS (said h y) t 0 = 1) (o : Int32) (m : Nat) : liesF (tg h s) o m (tg h s t 6) = liesF (tS (said h y)) o m (tS (said h y) t 6) := by
  rw [B.th ht h0 (by omega) (by omega)]
  exact liesT_congr (by omega) (fun r hr h0 => B.th hr h0 (by omega) (by omega)) o m 20 _ (B.2.2.2.endsT ht h0)
theorem Bd.rnd {G : GG} {h : HP} {y s : Nat} (B : Bd G h y s) {t : Nat} (ht : t < 30) (h0 : tS (said h y) t 0 = 1) (m : Nat) : rndF (tg h s) m (tg h s t 6) = rndF (tS (said h y)) m (tS (said h y) t 6) := by
  rw [B.th ht h0 (by omega) (by omega)]
  exact rndT_congr (by omega) (fun r hr h0 => B.th hr h0 (by omega) (by omega)) m 20 _ (B.2.2.2.endsT ht h0)
theorem c_liesIn {G : GG} {d : Nat} {h : HP} {y s : Nat} {Q : Option Value → HP → Prop} (B : Bd G h y s) {t : Nat} (ht : t < 30) (h0 : tS (said h y) t 0 = 1) {o : Int32} (hQ : Q (some (.int (if liesF (tS (said h y)) o 31 (tS (said h y) t 6) then 1 else 0))) h) : Cal G d mX6_liesIn [.ref s, .int (nI t), .int o] h Q :=
  s_liesIn B.1 (ti_nI (by omega)) (by omega) (B.endC ht h0) (by rw [B.lies ht h0]; exact hQ)
theorem m_liesIn {G : GG} {d : Nat} {h : HP} {y : Nat} {Q : Option Value → HP → Prop} (hd : 2 ≤ d) (M : MdSh G h y) (W : WF (said h y)) {t : Nat} (ht : t < 30) (h0 : tS (said h y) t 0 = 1) {o : Int32} (ho : ¬ o = -1) (hQ : Q (some (.int (if liesF (tS (said h y)) o 31 (tS (said h y) t 6) then 1 else 0))) h) : Cal G d mX12_liesIn [.ref y, .int (nI t), .int o] h Q :=
  r_liesIn (N := 30) hd M ho (ti_nI (by omega)) (by omega) ((W.ends ht h0).mono (by omega) (by omega)) hQ
theorem p_inside (G : GG) (u0 : Nat) (h : HP) (I : Inv G u0 h) (x1 x2 : Int32) : Pr (Inv G u0) G G.1 (G.1 + 119) mX11_inside mX12_inside [.int x1, .int x2] h := by
  obtain ⟨s, p, I⟩ := I
  unfold Pr Inv
  generalize G.1 = b at *
  generalize hy : b + 119 = y at *
  have B := I.bd
  have M := B.2.1
  have W := B.2.2.2
  have kb := I.1.2.1
  have n2 := I.2.1.2.1
  have ks := B.1.1
  have ok : some (Value.int (-1)) = some (Value.int (-1)) ∧ ∃ s p, InvB G u0 h b y s p := ⟨rfl, s, p, I⟩
  refine e_X11_inside (by omega) ⟨kb, s, n2, ks, c_isThere B (fun c => ⟨_, rfl, fun _ => ⟨_, rfl, e_X12_inside (by omega) ⟨M.1, m_isThing M W (by omega) (fun _ => ⟨_, rfl, fun _ => ok, fun q => absurd rfl q⟩) (fun t ht e w => absurd ⟨t, ht, e, w⟩ c)⟩⟩, fun q => absurd rfl q⟩) (fun t ht e w => ⟨_, rfl, fun q => absurd q (by decide), fun _ => ⟨s, n2, ks, c_isThere B (fun c => ⟨_, rfl, fun q => absurd rfl q, fun _ => ⟨_, rfl, e_X12_inside (by omega) ⟨M.1, m_isThing M W (by omega) (fun q => absurd ⟨t, ht, e, w⟩ q) (fun _ _ _ _ => ⟨_, rfl, fun q => absurd q (by decide), fun _ => m_isThing M W (by omega) (fun _ => ⟨_, rfl, fun q => absurd rfl q, fun _ => ok⟩) (fun t' ht' e' w' => absurd ⟨t', ht', e', w'⟩ c)⟩)⟩⟩⟩) (fun u hu eu wu => ⟨_, rfl, fun _ => ⟨s, n2, ks, ?_⟩, fun q => absurd q (by decide)⟩)⟩⟩)⟩
  subst e eu
  have R : ∀ {v : Int32}, (if liesF (tS (said h y)) (nI u) 31 (tS (said h y) t 6) then (1 : Int32) else 0) = v → Cal G 59 mX12_inside [.ref y, .int (nI t), .int (nI u)] h (fun r2 h2 => r2 = some (.int v) ∧ ∃ s p, InvB G u0 h2 b y s p) := fun {v} ev => by
    refine e_X12_inside (by omega) ⟨M.1, m_isThing M W (by omega) (fun q => absurd (isT.of ht w) q) (fun _ _ _ _ => ⟨_, rfl, fun q => absurd q (by decide), fun _ => m_isThing M W (by omega) (fun q => absurd (isT.of hu wu) q) (fun _ _ _ _ => ⟨_, rfl, fun _ => m_liesIn (by omega) M W ht w (nI_ne_neg (by omega)) ⟨_, rfl, fun q => ?_, fun q => ?_⟩, fun q => absurd q (by decide)⟩)⟩)⟩
    · exact ⟨by rw [← ev, q], s, p, I⟩
    · refine ⟨?_, s, p, I⟩
      rw [if10, Decidable.not_not] at q
      rw [if_pos q] at ev
      rw [← ev]
  refine c_liesIn B ht w ⟨_, rfl, fun q => ⟨_, rfl, R q⟩, fun q => ⟨_, rfl, R ?_⟩⟩
  rw [if10, Decidable.not_not] at q
  rw [if_pos q]
/-! changes of things -/
theorem WF.thg {S S' : Nat → Int32} (W : WF S) (e : ∀ j, ¬ (1608 ≤ j ∧ j < 2256) → S' j = S j) (e0 : ∀ t, t < 6 → tS S' t 0 = tS S t 0) (hg : ∀ t, t < 30 → tS S' t 0 = 1 → (t < 6 → tS S' t 5 = -1 ∧ tS S' t 7 = -1) ∧ (6 ≤ t → rng (tS S' t 5) 0 11) ∧ gat (tS S') t)
    (hh : WfH S') (hb : bin (tS S')) (hz : ∀ t, 30 ≤ t → t < 54 → tS S' t 0 = 0) (w : WfT 30 (S' 0) (S' 1) (tS S')) : WF S' := by
  obtain ⟨⟨⟨a1, a2, a3, a4, a5⟩, a6, a7, a8, a9, a10, a11⟩, b, c, d, _⟩ := W
  refine ⟨⟨⟨by rw [e 0 (by omega)]; exact a1, by rw [e 1 (by omega)]; exact a2, by rw [e 2 (by omega)]; exact a3, by rw [e 3 (by omega)]; exact a4, by rw [e 4 (by omega)]; exact a5⟩, fun c hc => by rw [e _ (by omega)]; exact a6 c hc, fun j hj => by rw [e _ (by omega)]; exact a7 j hj, fun f hf => by rw [e _ (by omega)]; exact a8 f hf, fun t ht => by rw [e0 t ht, e 2 (by omega)]; exact a9 t ht, hg, fun k hk => ?_⟩, hh, hb, hz, w⟩
  rw [e _ (by omega), e _ (by omega)]
  rcases a11 k hk with q | ⟨q1, q2, q3⟩
  · exact Or.inl q
  · exact Or.inr ⟨q1, q2, fun j h1 h2 => by rw [e _ (by omega)]; exact q3 j h1 h2⟩
def ThgP (b y s p a k : Nat) : Prop := (s + 5 ≤ a ∧ a ≤ s + 35) ∨ (a = y + 13 ∧ 1608 ≤ k ∧ k < 2256) ∨ Scr b y p a k
theorem InvB.thg {G : GG} {u0 : Nat} {h h2 : HP} {b y s p : Nat} {P RP : Nat → Nat → Prop} (I : InvB G u0 h b y s p) (F : FrJ P RP h h2) (hp : ∀ a k, P a k → ThgP b y s p a k) (hr : ∀ a k, RP a k → Scr2 b a k) (hn : noTh (said h y) → noTh (said h2 y)) (ct : ∀ t, t < 30 → CoTh h2 s (said h2 y) t) (c30 : tg h2 s 30 0 = 0) (W2 : WF (said h2 y)) : InvB G u0 h2 b y s p := by
  have g := I.1.1
  have n := I.2.1.1
  have C := I.2.2
  have W := C.2.1
  have ei : ∀ a k, ¬ ThgP b y s p a k → hI h2 a k = hI h a k := fun a k q => F.i (fun z => q (hp a k z))
  have es : ∀ j, ¬ (1608 ≤ j ∧ j < 2256) → said h2 y j = said h y j := fun j hj => ei _ _ (by unfold ThgP Scr; omega)
  refine I.core F (fun a k z => ?_) hr ⟨⟨fun j hj => ?_, fun c hc => ?_, fun j hj => ?_, ct, c30, fun e he => ?_⟩, W2, ?_, ?_, C.2.2.2.2.fr (fun a k h1 h2 => ei a k (by unfold ThgP Scr; omega))⟩
  · have := hp a k z
    unfold ThgP Scr at this
    unfold Tight
    omega
  · rw [ei s j (by unfold ThgP Scr; omega), es j (by omega)]
    exact C.1.1 j hj
  · rw [ei (s + 1) c (by unfold ThgP Scr; omega), es _ (by omega)]
    exact C.1.2.1 c hc
  · rw [ei (s + 2) j (by unfold ThgP Scr; omega), es _ (by omega)]
    exact C.1.2.2.1 j hj
  · rw [ei (s + 36 + e) 0 (by unfold ThgP Scr; omega), es _ (by omega)]
    refine ⟨(C.1.2.2.2.2.2 e he).1, fun q j h1 h2 => ?_⟩
    rw [ei (s + 36 + e) j (by unfold ThgP Scr; omega), es _ (by omega)]
    exact (C.1.2.2.2.2.2 e he).2 q j h1 h2
  · rw [es 3 (by omega)]
    exact C.2.2.1
  · rcases C.2.2.2.1 with q | q
    · exact Or.inl (hn q)
    · exact Or.inr ((q.fr (fun a k h1 h2 => ei a k (by unfold ThgP Scr; omega))).congr (es 0 (by omega)) (es 1 (by omega)) W.1.1.1.2 W.1.1.2.1.2 (fun c hc => es _ (by omega)))
/-! gates and keys -/
theorem tS_set (h : HP) (y t k : Nat) (v : Int32) (u j : Nat) (hk : k < 12) (hj : j < 12) : tS (said (sI h (y + 13) (1608 + 12 * t + k) v) y) u j = if u = t ∧ j = k then v else tS (said h y) u j := by
  unfold tS said
  rw [hI_sI]
  by_cases c : u = t ∧ j = k
  · rw [if_pos c, if_pos ⟨rfl, by omega⟩]
  · rw [if_neg c, if_neg (by rintro ⟨-, q⟩; omega)]
theorem tg_set (h : HP) (s t k : Nat) (v : Int32) (u j : Nat) : tg (sI h (s + 5 + t) k v) s u j = if u = t ∧ j = k then v else tg h s u j := by
  unfold tg
  rw [hI_sI]
  by_cases c : u = t ∧ j = k
  · rw [if_pos c, if_pos ⟨by omega, c.2⟩]
  · rw [if_neg c, if_neg (by rintro ⟨q, q2⟩; omega)]
theorem tS_off (h : HP) {a y : Nat} (hne : a ≠ y + 13) (k : Nat) (v : Int32) : said (sI h a k v) y = said h y := by
  funext j
  unfold said
  exact hI_ne _ _ (Or.inl (by omega))
theorem tg_off (h : HP) {a s : Nat} (hne : a < s + 5 ∨ s + 36 ≤ a) (k : Nat) (v : Int32) (u j : Nat) (hu : u < 31) : tg (sI h a k v) s u j = tg h s u j := by
  unfold tg
  exact hI_ne _ _ (Or.inl (by omega))
theorem irm2 {x : Int32} (h0 : 0 ≤ x.toInt) (h3 : x.toInt ≤ 3) : irm x 2 = 0 ↔ x.toInt % 2 = 0 := by
  obtain ⟨k, hk, rfl⟩ := of_in (n := 4) h0 (by omega)
  rw [ti_nI (by omega)]
  have : k = 0 ∨ k = 1 ∨ k = 2 ∨ k = 3 := by omega
  rcases this with rfl | rfl | rfl | rfl <;> decide
theorem r_gates {G : GG} {d : Nat} {h : HP} {y : Nat} {Q : Option Value → HP → Prop} (hd : 1 ≤ d) (M : MdSh G h y) {t : Nat} (ht : t < 54) {x2 x3 x4 : Int32} (hQ : Q none (sI (sI (sI h (y + 13) (1608 + 12 * t + 7) x2) (y + 13) (1608 + 12 * t + 8) x3) (y + 13) (1608 + 12 * t + 9) x4)) : Cal G d mX12_gates [.ref y, .int (nI t), .int x2, .int x3, .int x4] h Q := by
  obtain ⟨m1, m2, m3⟩ := M.sd
  have e : ∀ k, 1608 + 12 * nI t + nI k = nI (1608 + 12 * t + k) := fun k => by
    show nI 1608 + nI 12 * nI t + nI k = _
    rw [nM, nA, nA]
  have vv : ∀ k, k < 12 → ∀ h3, KP h h3 → vp_in (nI (1608 + 12 * t + k)) (hN h3 (y + 13)) := fun k hk h3 kp => by
    rw [m2.len kp, m3]
    exact vin_nI (by omega) (by omega)
  have q7 : (1608 + 12 * nI t + 7).toNatClampNeg = 1608 + 12 * t + 7 := by show (_ + nI 7).toNatClampNeg = _; rw [e 7, cl_nI (by omega)]
  have q8 : (1608 + 12 * nI t + 8).toNatClampNeg = 1608 + 12 * t + 8 := by show (_ + nI 8).toNatClampNeg = _; rw [e 8, cl_nI (by omega)]
  have q9 : (1608 + 12 * nI t + 9).toNatClampNeg = 1608 + 12 * t + 9 := by show (_ + nI 9).toNatClampNeg = _; rw [e 9, cl_nI (by omega)]
  refine e_X12_gates hd (e_X12_placeOf ⟨_, rfl, M.1, y + 13, m1, m2, ?_, ?_, ?_, fun h12 g => ?_⟩)
  · show vp_in (_ + nI 7) _; rw [e 7]; exact vv 7 (by omega) _ (KP.rf _)
  · show vp_in (_ + nI 8) _; rw [e 8]; exact vv 8 (by omega) _ (kp_sI ..)
  · show vp_in (_ + nI 9) _; rw [e 9]; exact vv 9 (by omega) _ ((kp_sI ..).tr (kp_sI ..))
  · rw [g, q7, q8, q9]
    exact hQ
def sidF (A : Nat → Nat → Int32) (t : Nat) (x : Int32) : Int32 := if irm x 2 = 0 then A t 3 - A t 1 else A t 4 - A t 2
theorem r_sideOf {G : GG} {d : Nat} {h : HP} {y : Nat} {Q : Option Value → HP → Prop} (hd : 2 ≤ d) (M : MdSh G h y) {t : Nat} (ht : t < 54) {x2 : Int32} (hQ : Q (some (.int (sidF (tS (said h y)) t x2))) h) : Cal G d mX12_sideOf [.ref y, .int (nI t), .int x2] h Q := by
  refine e_X12_sideOf (by omega) (e_X12_isAcross ⟨fun c => ⟨_, rfl, fun _ => ⟨M.1, r_of (k := 4) (by omega) M (ti_nI (by omega)) ht rfl (by omega) ⟨_, rfl, r_of (k := 2) (by omega) M (ti_nI (by omega)) ht rfl (by omega) ⟨_, rfl, ?_⟩⟩⟩, fun q => absurd rfl q⟩, fun c => ⟨_, rfl, fun q => absurd q (by decide), fun _ => ⟨M.1, r_of (k := 3) (by omega) M (ti_nI (by omega)) ht rfl (by omega) ⟨_, rfl, r_of (k := 1) (by omega) M (ti_nI (by omega)) ht rfl (by omega) ⟨_, rfl, ?_⟩⟩⟩⟩⟩)
  · unfold sidF at hQ
    rw [if_neg c] at hQ
    exact hQ
  · unfold sidF at hQ
    rw [if_pos c] at hQ
    exact hQ
theorem s_lengthOf {G : GG} {d : Nat} {h : HP} {s t : Nat} {Q : Option Value → HP → Prop} (k : Kd G h (s + 5 + t) 9) {x2 : Int32} (hQ : Q (some (.int (sidF (tg h s) t x2))) h) : Cal G d mX9_lengthOf [.ref (s + 5 + t), .int x2] h Q := by
  refine e_X9_lengthOf ⟨fun c => ⟨k, ?_⟩, fun c => ⟨k, ?_⟩⟩
  · unfold sidF at hQ
    rw [if_neg c] at hQ
    exact hQ
  · unfold sidF at hQ
    rw [if_pos c] at hQ
    exact hQ
theorem p_gate (G : GG) (u0 : Nat) (h : HP) (I : Inv G u0 h) (x1 x2 x3 x4 : Int32) : Pr (Inv G u0) G G.1 (G.1 + 119) mX11_gate mX12_gate [.int x1, .int x2, .int x3, .int x4] h := by
  obtain ⟨s, p, I⟩ := I
  unfold Pr Inv
  generalize G.1 = b at *
  generalize hy : b + 119 = y at *
  have B := I.bd
  have M := B.2.1
  have W := B.2.2.2
  have st := B.1
  have kb := I.1.2.1
  have n2 := I.2.1.2.1
  have ns := I.2.1.1
  have ks := B.1.1
  have ok : some (Value.int 0) = some (Value.int 0) ∧ ∃ s p, InvB G u0 h b y s p := ⟨rfl, s, p, I⟩
  have z0 : (0 : Int32).toInt = 0 := rfl
  have z3 : (3 : Int32).toInt = 3 := rfl
  have z9 : (999 : Int32).toInt = 999 := rfl
  have y0 : (0 : Int64).toInt = 0 := by simp
  have y3 : (3 : Int64).toInt = 3 := by simp
  have y9 : (999 : Int64).toInt = 999 := by simp
  refine e_X11_gate (by omega) ⟨kb, s, n2, ks, c_isWall B (by omega) (fun c => ⟨_, rfl, fun _ => ⟨_, rfl, e_X12_gate (by omega) ⟨M.1, m_isWall M W (by omega) (fun _ => ⟨_, rfl, fun _ => ok, fun q => absurd rfl q⟩) (fun t h6 ht e w => absurd ⟨t, h6, ht, e, w⟩ c)⟩⟩, fun q => absurd rfl q⟩) (fun t h6 ht e w => ⟨_, rfl, fun q => absurd q (by decide), fun _ => ?_⟩)⟩
  subst e
  have g := W.2.2.2.2.1 t ht w
  unfold geo at g
  have dim := W.1.1
  unfold rng at dim
  have es : (sidF (tS (said h y)) t x2).toInt = if irm x2 2 = 0 then (tS (said h y) t 3).toInt - (tS (said h y) t 1).toInt else (tS (said h y) t 4).toInt - (tS (said h y) t 2).toInt := by
    unfold sidF
    split
    · exact ti_sub (by omega) (by omega)
    · exact ti_sub (by omega) (by omega)
  have lb : 1 ≤ (sidF (tS (said h y)) t x2).toInt ∧ (sidF (tS (said h y)) t x2).toInt ≤ 40 := by
    rw [es]
    split <;> omega
  have es1 : (sidF (tS (said h y)) t x2 - 1).toInt = (sidF (tS (said h y)) t x2).toInt - 1 := ti_sub (by show _ ≤ _ - (1 : Int); omega) (by show _ - (1 : Int) < _; omega)
  have R : ∀ {h1 : HP} {Q : Option Value → HP → Prop} (M1 : MdSh G h1 y) (W1 : WF (said h1 y)) (eS : said h1 y = said h y), (¬ ((0 ≤ x2.toInt ∧ x2.toInt ≤ 3) ∧ (0 ≤ x3.toInt ∧ x3.toInt < (sidF (tS (said h y)) t x2).toInt) ∧ 0 ≤ x4.toInt ∧ x4.toInt ≤ 999) → Q (some (.int 0)) h1) → (((0 ≤ x2.toInt ∧ x2.toInt ≤ 3) ∧ (0 ≤ x3.toInt ∧ x3.toInt < (sidF (tS (said h y)) t x2).toInt) ∧ 0 ≤ x4.toInt ∧ x4.toInt ≤ 999) → Q (some (.int 1)) (sI (sI (sI h1 (y + 13) (1608 + 12 * t + 7) x2) (y + 13) (1608 + 12 * t + 8) x3) (y + 13) (1608 + 12 * t + 9) x4)) → Cal G 59 mX12_gate [.ref y, .int (nI t), .int x2, .int x3, .int x4] h1 Q := by
    intro h1 Q M1 W1 eS q0 q1
    refine e_X12_gate (by omega) ⟨M1.1, m_isWall M1 W1 (by omega) (fun q => absurd (isW.of h6 ht (by rw [eS]; exact w)) q) (fun _ _ _ _ _ => ⟨_, rfl, fun q => absurd q (by decide), fun _ => r_in ⟨_, rfl, fun c => q0 ?_, fun c2 => r_sideOf (by omega) M1 (by omega) ⟨_, rfl, r_in ⟨_, rfl, fun c => q0 ?_, fun c3 => r_in ⟨_, rfl, fun c4 => r_gates (by omega) M1 (by omega) ⟨rfl, q1 ?_⟩, fun c => q0 ?_⟩⟩⟩⟩⟩)⟩
    · rw [if10, ti64, y0, y3] at c
      exact fun z => c z.1
    · rw [eS, if10, ti64, ti64, y0, es1] at c
      exact fun z => c ⟨z.2.1.1, by omega⟩
    · rw [eS, if10, Decidable.not_not, ti64, ti64, y0, es1] at c3
      rw [if10, Decidable.not_not, ti64, y0, y3] at c2
      rw [if10, Decidable.not_not, ti64, y0, y9] at c4
      exact ⟨c2, ⟨c3.1, by omega⟩, c4⟩
    · rw [if10, ti64, y0, y9] at c
      exact fun z => c z.2.2
  have bad : ¬ ((0 ≤ x2.toInt ∧ x2.toInt ≤ 3) ∧ (0 ≤ x3.toInt ∧ x3.toInt < (sidF (tS (said h y)) t x2).toInt) ∧ 0 ≤ x4.toInt ∧ x4.toInt ≤ 999) → ∃ v, some (Value.int 0) = some (Value.int v) ∧ Cal G 59 mX12_gate [.ref y, .int (nI t), .int x2, .int x3, .int x4] h (fun r2 h2 => r2 = some (.int v) ∧ ∃ s p, InvB G u0 h2 b y s p) := fun hn => ⟨_, rfl, R M W rfl (fun _ => ok) (fun q => absurd q hn)⟩
  obtain ⟨k1, k2⟩ := st.2.2.2.2.2.2.1 t (by omega)
  have cl : (nI t).toNatClampNeg = t := cl_nI (by omega)
  have el : sidF (tg h s) t x2 = sidF (tS (said h y)) t x2 := by
    unfold sidF
    rw [B.th ht w (by omega) (by omega), B.th ht w (by omega) (by omega), B.th ht w (by omega) (by omega), B.th ht w (by omega) (by omega)]
  refine ⟨fun c => bad (fun q => ?_), fun c1 => ⟨fun c => bad (fun q => ?_), fun c2 => ⟨fun c => bad (fun q => ?_), fun c3 => ⟨fun c4 => ⟨s, n2, ks, s + 3, st.2.1.2.2.1, st.2.2.2.2.1.1, by rw [st.2.2.2.2.1.2]; exact vin_nI (by omega) (by omega), s + 5 + t, by rw [cl]; exact k1, fun c => bad (fun q => ?_), fun c5 => ⟨k2, s_lengthOf k2 ⟨_, rfl, fun c6 => ⟨_, rfl, ?_⟩, fun c => bad (fun q => ?_)⟩⟩⟩, fun c => bad (fun q => ?_)⟩⟩⟩⟩
  · rw [ti_lt, z0] at c; omega
  · rw [ti_lt, z3] at c; omega
  · rw [ti_lt, z0] at c; omega
  · rw [ti_lt, z0] at c; omega
  · rw [ti_lt, z0] at c1 c3 c5
    rw [ti_lt, z3] at c2
    rw [ti_le, z9] at c4
    rw [el, ti_lt] at c6
    have yes : (0 ≤ x2.toInt ∧ x2.toInt ≤ 3) ∧ (0 ≤ x3.toInt ∧ x3.toInt < (sidF (tS (said h y)) t x2).toInt) ∧ 0 ≤ x4.toInt ∧ x4.toInt ≤ 999 := by omega
    generalize hh1 : sI (sI (sI h (s + 5 + t) 8 x2) (s + 5 + t) 9 x3) (s + 5 + t) 10 x4 = h1
    have F1 : FrJ (fun a k => a = s + 5 + t ∨ (a = y + 13 ∧ 1608 ≤ k ∧ k < 2256)) (fun _ _ => False) h h1 := by
      rw [← hh1]
      exact ((FrJ.sI _ _ (Or.inl rfl)).tr (FrJ.sI _ _ (Or.inl rfl))).tr (FrJ.sI _ _ (Or.inl rfl))
    have eS : said h1 y = said h y := by
      rw [← hh1, tS_off _ (by omega), tS_off _ (by omega), tS_off _ (by omega)]
    have M1 : MdSh G h1 y := ⟨F1.kd M.1, fun q hq => ⟨(F1.r (fun z => z)).trans (M.2 q hq).1, F1.kd (M.2 q hq).2.1, (F1.n (M.2 q hq).2.1).trans (M.2 q hq).2.2⟩⟩
    refine R M1 (by rw [eS]; exact W) eS (fun q => absurd yes q) (fun _ => ⟨rfl, s, p, ?_⟩)
    generalize hh2 : sI (sI (sI h1 (y + 13) (1608 + 12 * t + 7) x2) (y + 13) (1608 + 12 * t + 8) x3) (y + 13) (1608 + 12 * t + 9) x4 = h2
    have F2 : FrJ (fun a k => a = s + 5 + t ∨ (a = y + 13 ∧ 1608 ≤ k ∧ k < 2256)) (fun _ _ => False) h1 h2 := by
      rw [← hh2]
      exact ((FrJ.sI _ _ (Or.inr ⟨rfl, by omega, by omega⟩)).tr (FrJ.sI _ _ (Or.inr ⟨rfl, by omega, by omega⟩))).tr (FrJ.sI _ _ (Or.inr ⟨rfl, by omega, by omega⟩))
    have F := F1.tr F2
    have eT : ∀ u j, j < 12 → tS (said h2 y) u j = if u = t ∧ j = 7 then x2 else if u = t ∧ j = 8 then x3 else if u = t ∧ j = 9 then x4 else tS (said h y) u j := fun u j hj => by
      rw [← hh2, tS_set _ _ _ _ _ _ _ (by omega) hj, tS_set _ _ _ _ _ _ _ (by omega) hj, tS_set _ _ _ _ _ _ _ (by omega) hj, eS]
      by_cases h7 : u = t ∧ j = 7
      · rw [if_neg (by omega), if_neg (by omega), if_pos h7, if_pos h7]
      · by_cases h8 : u = t ∧ j = 8
        · rw [if_neg (by omega), if_pos h8, if_neg h7, if_pos h8]
        · rw [if_neg h7, if_neg h7, if_neg h8, if_neg h8]
    have eT' : ∀ u j, j < 12 → (u ≠ t ∨ (j ≠ 7 ∧ j ≠ 8 ∧ j ≠ 9)) → tS (said h2 y) u j = tS (said h y) u j := fun u j hj hne => by
      rw [eT u j hj, if_neg (by omega), if_neg (by omega), if_neg (by omega)]
    have eG : ∀ u j, u < 31 → tg h2 s u j = if u = t ∧ j = 8 then x2 else if u = t ∧ j = 9 then x3 else if u = t ∧ j = 10 then x4 else tg h s u j := fun u j hu => by
      rw [← hh2, tg_off _ (by omega) _ _ _ _ hu, tg_off _ (by omega) _ _ _ _ hu, tg_off _ (by omega) _ _ _ _ hu, ← hh1, tg_set, tg_set, tg_set]
      by_cases h7 : u = t ∧ j = 8
      · rw [if_neg (by omega), if_neg (by omega), if_pos h7, if_pos h7]
      · by_cases h8 : u = t ∧ j = 9
        · rw [if_neg (by omega), if_pos h8, if_neg h7, if_pos h8]
        · rw [if_neg h7, if_neg h7, if_neg h8, if_neg h8]
    have eG' : ∀ u j, u < 31 → (u ≠ t ∨ (j ≠ 8 ∧ j ≠ 9 ∧ j ≠ 10)) → tg h2 s u j = tg h s u j := fun u j hu hne => by
      rw [eG u j hu, if_neg (by omega), if_neg (by omega), if_neg (by omega)]
    have ed : ∀ o, deepN (tS (said h2 y)) 31 o = deepN (tS (said h y)) 31 o := fun o => deepN_congr W.endsW (fun u hu => eT' u 0 (by omega) (by omega)) (fun u hu => eT' u 6 (by omega) (by omega)) o
    have s7 : ¬ x2 = -1 := fun q => by rw [q, tn1] at c1; omega
    refine I.thg F (fun a k q => by unfold ThgP; omega) (fun _ _ q => q.elim) (fun q u hu => by rw [eT' u 0 (by omega) (by omega)]; exact q u hu) (fun u hu => ?_) (by rw [eG' 30 0 (by omega) (by omega)]; exact I.2.2.1.2.2.2.2.1) ?_
    · obtain ⟨d1, d2⟩ := B.2.2.1.2.2.2.1 u hu
      refine ⟨by rw [eG' u 0 (by omega) (by omega), eT' u 0 (by omega) (by omega)]; exact d1, fun q => ?_⟩
      rw [eT' u 0 (by omega) (by omega)] at q
      obtain ⟨e1, e2, e3, e4, e5, e6⟩ := d2 q
      refine ⟨fun k h1 h2 => by rw [eG' u k (by omega) (by omega), eT' u k (by omega) (by omega)]; exact e1 k h1 h2, by rw [eG' u 7 (by omega) (by omega), ed]; exact e2, ?_⟩
      rw [eG' u 11 (by omega) (by omega), eT' u 10 (by omega) (by omega)]
      by_cases hut : u = t
      · subst hut
        have a7 : tS (said h2 y) u 7 = x2 := by rw [eT u 7 (by omega), if_pos ⟨rfl, rfl⟩]
        have a8 : tS (said h2 y) u 8 = x3 := by rw [eT u 8 (by omega), if_neg (by omega), if_pos ⟨rfl, rfl⟩]
        have a9 : tS (said h2 y) u 9 = x4 := by rw [eT u 9 (by omega), if_neg (by omega), if_neg (by omega), if_pos ⟨rfl, rfl⟩]
        have g8 : tg h2 s u 8 = x2 := by rw [eG u 8 (by omega), if_pos ⟨rfl, rfl⟩]
        have g9 : tg h2 s u 9 = x3 := by rw [eG u 9 (by omega), if_neg (by omega), if_pos ⟨rfl, rfl⟩]
        have g10 : tg h2 s u 10 = x4 := by rw [eG u 10 (by omega), if_neg (by omega), if_neg (by omega), if_pos ⟨rfl, rfl⟩]
        rw [a7, a8, a9, g8, g9, g10]
        exact ⟨rfl, fun q => absurd q s7, fun _ => ⟨rfl, rfl⟩, e6⟩
      · rw [eT' u 7 (by omega) (by omega), eT' u 8 (by omega) (by omega), eT' u 9 (by omega) (by omega), eG' u 8 (by omega) (by omega), eG' u 9 (by omega) (by omega), eG' u 10 (by omega) (by omega)]
        exact ⟨e3, e4, e5, e6⟩
    · refine W.thg (fun j hj => ?_) (fun u hu => eT' u 0 (by omega) (by omega)) (fun u hu q => ?_) ?_ (fun u hu => by rw [eT' u 0 (by omega) (by omega)]; exact W.2.2.1 u hu) (fun u h1 h2 => by rw [eT' u 0 (by omega) (by omega)]; exact W.2.2.2.1 u h1 h2) ?_
      · exact F.i (by omega)
      · rw [eT' u 0 (by omega) (by omega)] at q
        obtain ⟨a1, a2, a3⟩ := W.1.2.2.2.2.2.1 u hu q
        refine ⟨fun h => ?_, fun h => by rw [eT' u 5 (by omega) (by omega)]; exact a2 h, ?_⟩
        · rw [eT' u 5 (by omega) (by omega), eT' u 7 (by omega) (by omega)]; exact a1 h
        · unfold gat at a3 ⊢
          rw [eT' u 10 (by omega) (by omega), eT' u 1 (by omega) (by omega), eT' u 2 (by omega) (by omega), eT' u 3 (by omega) (by omega), eT' u 4 (by omega) (by omega)]
          by_cases hut : u = t
          · subst hut
            have a7 : tS (said h2 y) u 7 = x2 := by rw [eT u 7 (by omega), if_pos ⟨rfl, rfl⟩]
            have a8 : tS (said h2 y) u 8 = x3 := by rw [eT u 8 (by omega), if_neg (by omega), if_pos ⟨rfl, rfl⟩]
            have a9 : tS (said h2 y) u 9 = x4 := by rw [eT u 9 (by omega), if_neg (by omega), if_neg (by omega), if_pos ⟨rfl, rfl⟩]
            rw [a7, a8, a9]
            refine ⟨a3.1, Or.inr ⟨?_, yes.2.1.1, ?_, ?_⟩⟩
            · unfold rng; omega
            · have y2 := yes.2.1.2
              rw [es] at y2
              simp only [irm2 yes.1.1 yes.1.2] at y2
              exact y2
            · unfold rng; omega
          · rw [eT' u 7 (by omega) (by omega), eT' u 8 (by omega) (by omega), eT' u 9 (by omega) (by omega)]
            exact a3
      · rintro ⟨u, hu, q⟩
        rw [eT' u 0 (by omega) (by omega)] at q
        rw [show said h2 y 2 = said h y 2 from F.i (by omega)]
        exact W.2.1 ⟨u, hu, q⟩
      · rw [show said h2 y 0 = said h y 0 from F.i (by omega), show said h2 y 1 = said h y 1 from F.i (by omega)]
        exact W.2.2.2.2.congr (fun u k hu hk => eT' u k (by omega) (by omega))
  · rw [el, ti_lt] at c
    omega
  · rw [ti_le, z9] at c; omega
