/-! ===== keys, nests, cells ===== -/
theorem tbv (k : Nat) : (nI k).toBitVec = BitVec.ofNat 32 k := rfl
theorem tbn {k : Nat} (h : k < 2147483648) : (nI k).toBitVec.toNat = k := by
  rw [tbv, BitVec.toNat_ofNat]
  exact Nat.mod_eq_of_lt (by omega)
theorem nI_bv {x : Int32} {k : Nat} (hk : k < 2147483648) (h : x.toBitVec.toNat = k) : x = nI k := by
  apply Int32.toBitVec_inj.mp
  apply BitVec.eq_of_toNat_eq
  rw [tbn hk, h]
theorem nX {k m : Nat} (hk : k < 4096) (hm : m < 4096) : nI k ^^^ nI m = nI (k ^^^ m) := by
  have := Nat.xor_lt_two_pow (n := 12) hk hm
  refine nI_bv (by omega) ?_
  rw [Int32.toBitVec_xor, BitVec.toNat_xor, tbn (by omega), tbn (by omega)]
theorem nAnd {k m : Nat} (hk : k < 2147483648) (hm : m < 2147483648) : nI k &&& nI m = nI (k &&& m) := by
  have := @Nat.and_le_left k m
  refine nI_bv (by omega) ?_
  rw [Int32.toBitVec_and, BitVec.toNat_and, tbn (by omega), tbn (by omega)]
theorem nOr {k m : Nat} (hk : k < 4096) (hm : m < 4096) : nI k ||| nI m = nI (k ||| m) := by
  have := Nat.or_lt_two_pow (n := 12) hk hm
  refine nI_bv (by omega) ?_
  rw [Int32.toBitVec_or, BitVec.toNat_or, tbn (by omega), tbn (by omega)]
theorem and1 (z : Int32) : z &&& 1 = 0 ∨ z &&& 1 = 1 := by
  have e : (z &&& 1).toBitVec.toNat = z.toBitVec.toNat % 2 := by
    rw [Int32.toBitVec_and, BitVec.toNat_and]
    exact Nat.and_one_is_mod _
  rcases Nat.mod_two_eq_zero_or_one z.toBitVec.toNat with h | h
  · left; exact nI_bv (k := 0) (by omega) (by rw [e, h])
  · right; exact nI_bv (k := 1) (by omega) (by rw [e, h])
theorem sh1 {f : Nat} (hf : f < 12) : (1 : Int32) <<< (nI f &&& 31) = nI (2 ^ f) := by
  have : f = 0 ∨ f = 1 ∨ f = 2 ∨ f = 3 ∨ f = 4 ∨ f = 5 ∨ f = 6 ∨ f = 7 ∨ f = 8 ∨ f = 9 ∨ f = 10 ∨ f = 11 := by omega
  rcases this with rfl | rfl | rfl | rfl | rfl | rfl | rfl | rfl | rfl | rfl | rfl | rfl <;> rfl
theorem key_rng {v : Int32} {f : Nat} (hv : rng v 0 4095) (hf : f < 12) : rng (v ^^^ ((1 : Int32) <<< (nI f &&& 31))) 0 4095 := by
  obtain ⟨k, hk, rfl⟩ := of_in (n := 4096) hv.1 (by have := hv.2; omega)
  have p2 : 2 ^ f < 4096 := by
    have := Nat.pow_lt_pow_right (a := 2) (by omega) hf
    omega
  have x := Nat.xor_lt_two_pow (n := 12) hk p2
  rw [sh1 hf, nX hk p2]
  unfold rng
  rw [ti_nI (by omega)]
  omega
theorem p_key (G : GG) (u0 : Nat) (h : HP) (I : Inv G u0 h) (x1 x2 x3 : Int32) (hx3 : x3 = 0 ∨ x3 = 1) : Pr (Inv G u0) G G.1 (G.1 + 119) mX11_key mX12_key [.int x1, .int x2, .int x3] h := by
  obtain ⟨s, p, I⟩ := I
  unfold Pr Inv
  generalize G.1 = b at *
  generalize hy : b + 119 = y at *
  have B := I.bd
  have M := B.2.1
  have W := B.2.2.2
  have st := B.1
  have kb := I.1.2.1
  have n2 := I.2.1.2.1
  have ns := I.2.1.1
  have ks := B.1.1
  have ok : some (Value.int 0) = some (Value.int 0) ∧ ∃ s p, InvB G u0 h b y s p := ⟨rfl, s, p, I⟩
  obtain ⟨m1, m2, m3⟩ := M.sd
  refine e_X11_key (by omega) ⟨kb, s, n2, ks, c_isWall B (by omega) (fun c => ⟨_, rfl, fun _ => ⟨_, rfl, e_X12_key (by omega) ⟨M.1, m_isWall M W (by omega) (fun _ => ⟨_, rfl, fun _ => ok, fun q => absurd rfl q⟩) (fun t h6 ht e w => absurd ⟨t, h6, ht, e, w⟩ c)⟩⟩, fun q => absurd rfl q⟩) (fun t h6 ht e w => ⟨_, rfl, fun q => absurd q (by decide), fun _ => s_isFamily (fun c => ⟨_, rfl, fun q => absurd rfl q, fun _ => ⟨_, rfl, e_X12_key (by omega) ⟨M.1, m_isWall M W (by omega) (fun q => absurd ⟨t, h6, ht, e, w⟩ q) (fun _ _ _ _ _ => ⟨_, rfl, fun q => absurd q (by decide), fun _ => r_isFamily (fun _ => ⟨_, rfl, fun _ => ok, fun q => absurd rfl q⟩) (fun q => absurd q c)⟩)⟩⟩⟩) (fun f => ⟨_, rfl, fun _ => ?_, fun q => absurd q (by decide)⟩)⟩)⟩
  subst e
  obtain ⟨j, hj, rfl⟩ := of_in (n := 12) f.1 f.2
  obtain ⟨k1, k2⟩ := st.2.2.2.2.2.2.1 t (by omega)
  have cl : (nI t).toNatClampNeg = t := cl_nI (by omega)
  have e11 : hI h (s + 5 + t) 11 = tS (said h y) t 10 := ((B.2.2.1.2.2.2.1 t ht).2 w).2.2.2.2.2
  have R : ∀ {h1 : HP} {Q : Option Value → HP → Prop} (M1 : MdSh G h1 y) (W1 : WF (said h1 y)) (eS : said h1 y = said h y), (((tS (said h y) t 10) >>> (nI j &&& 31)) &&& 1 = x3 → Q (some (.int 0)) h1) → (¬ ((tS (said h y) t 10) >>> (nI j &&& 31)) &&& 1 = x3 → Q (some (.int 1)) (sI h1 (y + 13) (1608 + 12 * t + 10) (tS (said h y) t 10 ^^^ (1 <<< (nI j &&& 31))))) → Cal G 59 mX12_key [.ref y, .int (nI t), .int (nI j), .int x3] h1 Q := by
    intro h1 Q M1 W1 eS q0 q1
    obtain ⟨m1, m2, m3⟩ := M1.sd
    have e10 : 1608 + 12 * nI t + 10 = nI (1608 + 12 * t + 10) := by
      show nI 1608 + nI 12 * nI t + nI 10 = _
      rw [nM, nA, nA]
    have vv : vp_in (1608 + 12 * nI t + 10) (hN h1 (y + 13)) := by
      rw [e10, m3]; exact vin_nI (by omega) (by omega)
    have fin : ∀ z : Int32, z = x3 → Ex G 59 mX12_key 35 [(0, .ref y), (1, .int (nI t)), (2, .int (nI j)), (3, .int x3)] [.int z, .int (((tS (said h1 y) t 10) >>> (nI j &&& 31)) &&& 1)] h1 Q := by
      intro z hz
      refine t_X12_key_35 (by omega) ⟨fun c => ⟨M1.1, y + 13, m1, e_X12_placeOf ⟨_, rfl, m2, vv, vv, fun h12 g => ?_⟩⟩, fun c => q0 ?_⟩
      · rw [g, e10, cl_nI (by omega)]
        have q := q1 (by rw [← eS, ← hz]; exact c)
        rw [← eS] at q
        exact q
      · rw [← eS, ← hz]; exact c
    refine e_X12_key (by omega) ⟨M1.1, m_isWall M1 W1 (by omega) (fun q => absurd (isW.of h6 ht (by rw [eS]; exact w)) q) (fun _ _ _ _ _ => ⟨_, rfl, fun q => absurd q (by decide), fun _ => r_isFamily (fun q => absurd f q) (fun _ => ⟨_, rfl, fun q => absurd q (by decide), fun _ => r_of (k := 10) (by omega) M1 (ti_nI (by omega)) (by omega) rfl (by omega) ⟨_, rfl, fun c => fin 0 c.symm, fun c => fin 1 ?_⟩⟩)⟩)⟩
    rcases hx3 with q | q
    · exact absurd q c
    · exact q.symm
  have fin : ∀ z : Int32, (z = x3 ↔ ((tS (said h y) t 10) >>> (nI j &&& 31)) &&& 1 = x3) → Ex G 59 mX11_key 49 [(0, .ref b), (1, .int (nI t)), (2, .int (nI j)), (3, .int x3), (4, .ref (s + 5 + t))] [.int z] h (fun r h1 => ∃ v, r = some (.int v) ∧ Cal G 59 mX12_key [.ref y, .int (nI t), .int (nI j), .int x3] h1 (fun r2 h2 => r2 = some (.int v) ∧ ∃ s p, InvB G u0 h2 b y s p)) := by
    intro z hz
    refine t_X11_key_49 ⟨fun c => ⟨k2, _, rfl, ?_⟩, fun c => ⟨_, rfl, R M W rfl (fun _ => ok) (fun q => absurd (hz.mp c) q)⟩⟩
    rw [e11]
    generalize hv : tS (said h y) t 10 ^^^ (1 <<< (nI j &&& 31)) = v
    have F1 : FrJ (fun a k => a = s + 5 + t ∨ (a = y + 13 ∧ 1608 ≤ k ∧ k < 2256)) (fun _ _ => False) h (sI h (s + 5 + t) 11 v) := FrJ.sI _ _ (Or.inl rfl)
    have eS : said (sI h (s + 5 + t) 11 v) y = said h y := tS_off _ (by omega) _ _
    have M1 : MdSh G (sI h (s + 5 + t) 11 v) y := ⟨F1.kd M.1, fun q hq => ⟨(F1.r (fun z => z)).trans (M.2 q hq).1, F1.kd (M.2 q hq).2.1, (F1.n (M.2 q hq).2.1).trans (M.2 q hq).2.2⟩⟩
    refine R M1 (by rw [eS]; exact W) eS (fun q => absurd (hz.mpr q) c) (fun _ => ⟨rfl, s, p, ?_⟩)
    rw [hv]
    generalize hh2 : sI (sI h (s + 5 + t) 11 v) (y + 13) (1608 + 12 * t + 10) v = h2
    have F : FrJ (fun a k => a = s + 5 + t ∨ (a = y + 13 ∧ 1608 ≤ k ∧ k < 2256)) (fun _ _ => False) h h2 := by
      rw [← hh2]
      exact F1.tr (FrJ.sI _ _ (Or.inr ⟨rfl, by omega, by omega⟩))
    have eT : ∀ u j, j < 12 → tS (said h2 y) u j = if u = t ∧ j = 10 then v else tS (said h y) u j := fun u j hj => by
      rw [← hh2, tS_set _ _ _ _ _ _ _ (by omega) hj, eS]
    have eT' : ∀ u j, j < 12 → (u ≠ t ∨ j ≠ 10) → tS (said h2 y) u j = tS (said h y) u j := fun u j hj hne => by
      rw [eT u j hj, if_neg (by omega)]
    have eG : ∀ u j, u < 31 → tg h2 s u j = if u = t ∧ j = 11 then v else tg h s u j := fun u j hu => by
      rw [← hh2, tg_off _ (by omega) _ _ _ _ hu, tg_set]
    have eG' : ∀ u j, u < 31 → (u ≠ t ∨ j ≠ 11) → tg h2 s u j = tg h s u j := fun u j hu hne => by
      rw [eG u j hu, if_neg (by omega)]
    have ed : ∀ o, deepN (tS (said h2 y)) 31 o = deepN (tS (said h y)) 31 o := fun o => deepN_congr W.endsW (fun u hu => eT' u 0 (by omega) (by omega)) (fun u hu => eT' u 6 (by omega) (by omega)) o
    refine I.thg F (fun a k q => by unfold ThgP; omega) (fun _ _ q => q.elim) (fun q u hu => by rw [eT' u 0 (by omega) (by omega)]; exact q u hu) (fun u hu => ?_) (by rw [eG' 30 0 (by omega) (by omega)]; exact I.2.2.1.2.2.2.2.1) ?_
    · obtain ⟨d1, d2⟩ := B.2.2.1.2.2.2.1 u hu
      refine ⟨by rw [eG' u 0 (by omega) (by omega), eT' u 0 (by omega) (by omega)]; exact d1, fun q => ?_⟩
      rw [eT' u 0 (by omega) (by omega)] at q
      obtain ⟨e1, e2, e3, e4, e5, e6⟩ := d2 q
      refine ⟨fun k h1 h2 => by rw [eG' u k (by omega) (by omega), eT' u k (by omega) (by omega)]; exact e1 k h1 h2, by rw [eG' u 7 (by omega) (by omega), ed]; exact e2, ?_⟩
      rw [eT' u 7 (by omega) (by omega), eT' u 8 (by omega) (by omega), eT' u 9 (by omega) (by omega), eG' u 8 (by omega) (by omega), eG' u 9 (by omega) (by omega), eG' u 10 (by omega) (by omega)]
      refine ⟨e3, e4, e5, ?_⟩
      rw [eG u 11 (by omega), eT u 10 (by omega)]
      by_cases hut : u = t
      · rw [if_pos ⟨hut, rfl⟩, if_pos ⟨hut, rfl⟩]
      · rw [if_neg (by omega), if_neg (by omega)]
        exact e6
    · refine W.thg (fun j hj => ?_) (fun u hu => eT' u 0 (by omega) (by omega)) (fun u hu q => ?_) ?_ (fun u hu => by rw [eT' u 0 (by omega) (by omega)]; exact W.2.2.1 u hu) (fun u h1 h2 => by rw [eT' u 0 (by omega) (by omega)]; exact W.2.2.2.1 u h1 h2) ?_
      · exact F.i (by omega)
      · rw [eT' u 0 (by omega) (by omega)] at q
        obtain ⟨a1, a2, a3⟩ := W.1.2.2.2.2.2.1 u hu q
        refine ⟨fun h => ?_, fun h => by rw [eT' u 5 (by omega) (by omega)]; exact a2 h, ?_⟩
        · rw [eT' u 5 (by omega) (by omega), eT' u 7 (by omega) (by omega)]; exact a1 h
        · unfold gat at a3 ⊢
          rw [eT' u 7 (by omega) (by omega), eT' u 8 (by omega) (by omega), eT' u 9 (by omega) (by omega), eT' u 1 (by omega) (by omega), eT' u 2 (by omega) (by omega), eT' u 3 (by omega) (by omega), eT' u 4 (by omega) (by omega)]
          refine ⟨?_, a3.2⟩
          rw [eT u 10 (by omega)]
          by_cases hut : u = t
          · rw [if_pos ⟨hut, rfl⟩, ← hv]
            subst hut
            exact key_rng a3.1 hj
          · rw [if_neg (by omega)]
            exact a3.1
      · rintro ⟨u, hu, q⟩
        rw [eT' u 0 (by omega) (by omega)] at q
        rw [show said h2 y 2 = said h y 2 from F.i (by omega)]
        exact W.2.1 ⟨u, hu, q⟩
      · rw [show said h2 y 0 = said h y 0 from F.i (by omega), show said h2 y 1 = said h y 1 from F.i (by omega)]
        exact W.2.2.2.2.congr (fun u k hu hk => eT' u k (by omega) (by omega))
  refine ⟨s, n2, ks, s + 3, st.2.1.2.2.1, st.2.2.2.2.1.1, by rw [st.2.2.2.2.1.2]; exact vin_nI (by omega) (by omega), s + 5 + t, by rw [cl]; exact k1, k2, fun c => fin 0 ?_, fun c => fin 1 ?_⟩
  · rw [e11] at c
    rcases and1 (tS (said h y) t 10 >>> (nI j &&& 31)) with q | q
    · rw [q]
    · exact absurd q c
  · rw [e11] at c
    rw [c]
/-! loops that go up -/
def foldF {α : Type} (f : Nat → α → α) : α → Nat → Nat → α
  | a, _, 0 => a
  | a, i, n + 1 => foldF f (f i a) (i + 1) n
theorem loop_up {α : Type} {P J : Nat → α → Prop} {f : Nat → α → α} {e : Nat} (hJ : ∀ i a, i < e → J i a → J (i + 1) (f i a)) (step : ∀ i a, i < e → J i a → P (i + 1) (f i a) → P i a) : ∀ n i a, i + n = e → J i a → (J e (foldF f a i n) → P e (foldF f a i n)) → P i a
  | 0, i, a, h, j, p => by
    obtain rfl : i = e := h
    exact p j
  | n + 1, i, a, h, j, p => step i a (by omega) j (loop_up hJ step n (i + 1) (f i a) (by omega) (hJ i a (by omega) j) p)
theorem foldF_congr {α : Type} {f g : Nat → α → α} : ∀ (n i : Nat) (a : α), (∀ j x, i ≤ j → j < i + n → f j x = g j x) → foldF f a i n = foldF g a i n
  | 0, _, _, _ => rfl
  | n + 1, i, a, h => by
    simp only [foldF]
    rw [h i a (by omega) (by omega)]
    exact foldF_congr n (i + 1) _ (fun j x h1 h2 => h j x (by omega) (by omega))
theorem foldF_inv {α : Type} {f : Nat → α → α} {J : Nat → α → Prop} : ∀ (n i : Nat) (a : α), (∀ j x, i ≤ j → j < i + n → J j x → J (j + 1) (f j x)) → J i a → J (i + n) (foldF f a i n)
  | 0, _, _, _, h => h
  | n + 1, i, a, hf, h => by
    simp only [foldF]
    have := foldF_inv n (i + 1) (f i a) (fun j x h1 h2 => hf j x (by omega) (by omega)) (hf i a (by omega) (by omega) h)
    rw [show i + (n + 1) = i + 1 + n by omega]
    exact this
/-- the first of the best -/
def selS (p : Nat → Bool) (r : Nat → Nat → Bool) (i : Nat) : Option Nat → Option Nat
  | none => if p i then some i else none
  | some a => if p i && r i a then some i else some a
def selF (p : Nat → Bool) (r : Nat → Nat → Bool) (i n : Nat) : Option Nat := foldF (selS p r) none i n
def SelJ (p : Nat → Bool) (i : Nat) (a : Option Nat) : Prop := ∀ t, a = some t → t < i ∧ p t = true
theorem SelJ.step {p : Nat → Bool} {r : Nat → Nat → Bool} {i : Nat} {a : Option Nat} (h : SelJ p i a) : SelJ p (i + 1) (selS p r i a) := by
  intro t e
  cases a with
  | none =>
    simp only [selS] at e
    by_cases c : p i = true
    · rw [if_pos c] at e
      obtain rfl : i = t := Option.some.inj e
      exact ⟨by omega, c⟩
    · rw [if_neg c] at e
      cases e
  | some u =>
    simp only [selS] at e
    by_cases c : (p i && r i u) = true
    · rw [if_pos c] at e
      obtain rfl : i = t := Option.some.inj e
      exact ⟨by omega, (Bool.and_eq_true_iff.mp c).1⟩
    · rw [if_neg c] at e
      have := h t e
      exact ⟨by omega, this.2⟩
theorem selS_congr {p q : Nat → Bool} {r r' : Nat → Nat → Bool} {i : Nat} {a : Option Nat} (hp : p i = q i) (hr : ∀ u, a = some u → r i u = r' i u) : selS p r i a = selS q r' i a := by
  cases a with
  | none => simp only [selS, hp]
  | some u => simp only [selS, hp, hr u rfl]
theorem foldF_selC {p q : Nat → Bool} {r r' : Nat → Nat → Bool} : ∀ (n i : Nat) (a : Option Nat), SelJ p i a → (∀ j, i ≤ j → j < i + n → p j = q j) → (∀ j u, j < i + n → u < i + n → p j = true → p u = true → r j u = r' j u) → foldF (selS p r) a i n = foldF (selS q r') a i n
  | 0, _, _, _, _, _ => rfl
  | n + 1, i, a, hJ, hp, hr => by
    simp only [foldF]
    have e : selS p r i a = selS q r' i a := by
      cases a with
      | none => simp only [selS, hp i (by omega) (by omega)]
      | some u =>
        simp only [selS]
        rw [← hp i (by omega) (by omega)]
        cases c : p i
        · rfl
        · rw [hr i u (by omega) (by have := (hJ u rfl).1; omega) c (hJ u rfl).2]
    rw [← e]
    exact foldF_selC n (i + 1) _ hJ.step (fun j h1 h2 => hp j (by omega) (by omega)) (fun j u h1 h2 => hr j u (by omega) (by omega))
theorem onI_neg {a : Option Nat} (h : ∀ t, a = some t → t < 2147483648) : onI a = -1 ↔ a = none := by
  cases a with
  | none => simp [onI]
  | some t =>
    simp only [onI]
    exact ⟨fun q => absurd q (nI_ne_neg (h t rfl)), fun q => by cases q⟩
