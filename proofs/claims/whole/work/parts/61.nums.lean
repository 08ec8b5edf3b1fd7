/-! ===== pairs that change numbers, likes, errands ===== -/
theorem nA (a b : Nat) : nI a + nI b = nI (a + b) := (Int32.ofNat_add a b).symm
theorem nM (a b : Nat) : nI a * nI b = nI (a * b) := (Int32.ofNat_mul a b).symm
theorem nS {a b : Nat} (h : b ≤ a) : nI a - nI b = nI (a - b) := by
  have e : nI (a - b) + nI b = nI a := by rw [nA]; congr 1; omega
  rw [← e, Int32.add_sub_cancel]
theorem of_in {x : Int32} {n : Nat} (h0 : 0 ≤ x.toInt) (h1 : x.toInt < n) : ∃ k, k < n ∧ x = nI k := ⟨x.toInt.toNat, by omega, nI_ti (by omega)⟩
theorem InvB.core {G : GG} {u0 : Nat} {h h2 : HP} {b y s p : Nat} {P RP : Nat → Nat → Prop} (I : InvB G u0 h b y s p) (F : FrJ P RP h h2) (hp : ∀ a k, P a k → ¬ Tight b y a k) (hr : ∀ a k, RP a k → Scr2 b a k) (C : Core h2 b y s) : InvB G u0 h2 b y s p := by
  obtain ⟨R, N, -⟩ := I
  refine ⟨R.fr F hp (fun a k z => ?_), N.fr F hr, C⟩
  have := hr a k z
  unfold Scr2 at this
  unfold RLoose
  omega
theorem CoSt.nums {h h2 : HP} {s : Nat} {S S' : Nat → Int32} (W : WF S) (C : CoSt h s S) (et : ∀ t k, t < 31 → tg h2 s t k = tg h s t k) (e : ∀ u k, u < 54 → k < 12 → tS S' u k = tS S u k) (c1 : ∀ j, j < 5 → hI h2 s j = S' j) (c2 : ∀ c, c < 1600 → hI h2 (s + 1) c = S' (8 + c)) (c3 : ∀ j, j < 144 → hI h2 (s + 2) j = S' (2256 + j))
    (c6 : ∀ e, e < 6 → hI h2 (s + 36 + e) 0 = S' (2400 + 6 * e) ∧ (S' (2400 + 6 * e) = 1 → ∀ j, 1 ≤ j → j < 6 → hI h2 (s + 36 + e) j = S' (2400 + 6 * e + j))) : CoSt h2 s S' :=
  ⟨c1, c2, c3, fun t ht => (C.2.2.2.1 t ht).same W ht (fun k => et t k (by omega)) e, (et 30 0 (by omega)).trans C.2.2.2.2.1, c6⟩
def ErrW (S : Nat → Int32) : Prop := ∀ e, e < 6 → S (2400 + 6 * e) = 0 ∨ (S (2400 + 6 * e) = 1 ∧ rng (S (2400 + 6 * e + 1)) 0 11 ∧ ∀ j, 2 ≤ j → j < 6 → rng (S (2400 + 6 * e + j)) 0 39)
theorem Core.upd {h h2 : HP} {b y s : Nat} (C : Core h b y s) (et : ∀ t k, t < 31 → tg h2 s t k = tg h s t k) (e : ∀ u k, u < 54 → k < 12 → tS (said h2 y) u k = tS (said h y) u k)
    (e0 : ∀ j, j < 3 → said h2 y j = said h y j) (ec : ∀ c, c < 1600 → said h2 y (8 + c) = said h y (8 + c)) (es : ∀ a k, b + 16 ≤ a → a ≤ b + 20 → hI h2 a k = hI h a k)
    (c1 : ∀ j, j < 5 → hI h2 s j = said h2 y j) (c2 : ∀ c, c < 1600 → hI h2 (s + 1) c = hI h (s + 1) c) (c3 : ∀ j, j < 144 → hI h2 (s + 2) j = said h2 y (2256 + j))
    (c6 : ∀ e, e < 6 → hI h2 (s + 36 + e) 0 = said h2 y (2400 + 6 * e) ∧ (said h2 y (2400 + 6 * e) = 1 → ∀ j, 1 ≤ j → j < 6 → hI h2 (s + 36 + e) j = said h2 y (2400 + 6 * e + j)))
    (n1 : (0 ≤ (said h2 y 3).toInt ∧ (said h2 y 3).toInt ≤ 9999) ∧ 0 ≤ (said h2 y 4).toInt) (n2 : ∀ j, j < 144 → rng (said h2 y (2256 + j)) (-9) 9) (n3 : ∀ f, f < 12 → said h2 y (2256 + 13 * f) = 0) (n4 : ErrW (said h2 y)) : Core h2 b y s := by
  obtain ⟨C1, W, C3, C4, C5⟩ := C
  have z0 : said h2 y 0 = said h y 0 := e0 0 (by omega)
  have z1 : said h2 y 1 = said h y 1 := e0 1 (by omega)
  refine ⟨CoSt.nums W C1 et e c1 (fun c hc => ((c2 c hc).trans (C1.2.1 c hc)).trans (ec c hc).symm) c3 c6, W.nums e z0 z1 (e0 2 (by omega)) ⟨⟨n1.1.1, n1.2⟩, fun c hc => by rw [ec c hc]; exact W.1.2.1 c hc, n2, n3, n4⟩, n1.1.2, ?_, C5.fr es⟩
  rcases C4 with q | q
  · exact Or.inl (q.congr e)
  · exact Or.inr ((q.fr es).congr z0 z1 W.1.1.1.2 W.1.1.2.1.2 ec)
/-- what numbers, likes and errands are -/
def NumP (b y s p a k : Nat) : Prop := (a = s ∧ (k = 3 ∨ k = 4)) ∨ a = s + 2 ∨ (s + 36 ≤ a ∧ a < s + 42) ∨ (a = y + 13 ∧ (k = 3 ∨ k = 4 ∨ 2256 ≤ k)) ∨ Scr b y p a k
def ErrC (h : HP) (s : Nat) (S : Nat → Int32) : Prop := ∀ e, e < 6 → hI h (s + 36 + e) 0 = S (2400 + 6 * e) ∧ (S (2400 + 6 * e) = 1 → ∀ j, 1 ≤ j → j < 6 → hI h (s + 36 + e) j = S (2400 + 6 * e + j))
def LikC (h : HP) (s : Nat) (S : Nat → Int32) : Prop := (∀ j, j < 144 → hI h (s + 2) j = S (2256 + j)) ∧ (∀ j, j < 144 → rng (S (2256 + j)) (-9) 9) ∧ (∀ f, f < 12 → S (2256 + 13 * f) = 0)
theorem InvB.num {G : GG} {u0 : Nat} {h h2 : HP} {b y s p : Nat} {P RP : Nat → Nat → Prop} (I : InvB G u0 h b y s p) (F : FrJ P RP h h2) (hp : ∀ a k, P a k → NumP b y s p a k) (hr : ∀ a k, RP a k → Scr2 b a k)
    (e3 : hI h2 s 3 = said h2 y 3) (e4 : hI h2 s 4 = said h2 y 4) (n1 : (0 ≤ (said h2 y 3).toInt ∧ (said h2 y 3).toInt ≤ 9999) ∧ 0 ≤ (said h2 y 4).toInt) (L : LikC h2 s (said h2 y)) (E : ErrC h2 s (said h2 y)) (E2 : ErrW (said h2 y)) : InvB G u0 h2 b y s p := by
  have g := I.1.1
  have n := I.2.1.1
  have C := I.2.2
  have ei : ∀ a k, ¬ NumP b y s p a k → hI h2 a k = hI h a k := fun a k q => F.i (fun z => q (hp a k z))
  refine I.core F (fun a k z => ?_) hr (C.upd ?_ ?_ ?_ ?_ ?_ ?_ ?_ L.1 E n1 L.2.1 L.2.2 E2)
  · have := hp a k z
    unfold NumP Scr at this
    unfold Tight
    omega
  · intro t k ht
    exact ei _ _ (by unfold NumP Scr; omega)
  · intro u k hu hk
    exact ei _ _ (by unfold NumP Scr; omega)
  · intro j hj
    exact ei _ _ (by unfold NumP Scr; omega)
  · intro j hj
    exact ei _ _ (by unfold NumP Scr; omega)
  · intro a k h1 h2
    exact ei _ _ (by unfold NumP Scr; omega)
  · intro j hj
    by_cases j3 : j = 3
    · rw [j3]; exact e3
    · by_cases j4 : j = 4
      · rw [j4]; exact e4
      · exact ((ei _ _ (by unfold NumP Scr; omega)).trans (C.1.1 j hj)).trans (ei _ _ (by unfold NumP Scr; omega)).symm
  · intro c hc
    exact ei _ _ (by unfold NumP Scr; omega)
theorem InvB.lik {G : GG} {u0 : Nat} {h h2 : HP} {b y s p : Nat} (I : InvB G u0 h b y s p) (e1 : ∀ j, hI h2 (s + 2) j = hI h (s + 2) j) (e2 : ∀ j, j < 144 → said h2 y (2256 + j) = said h y (2256 + j)) : LikC h2 s (said h2 y) := by
  have C := I.2.2
  exact ⟨fun j hj => ((e1 j).trans (C.1.2.2.1 j hj)).trans (e2 j hj).symm, fun j hj => by rw [e2 j hj]; exact C.2.1.1.2.2.1 j hj, fun f hf => by rw [e2 _ (by omega)]; exact C.2.1.1.2.2.2.1 f hf⟩
theorem InvB.err {G : GG} {u0 : Nat} {h h2 : HP} {b y s p : Nat} (I : InvB G u0 h b y s p) (e1 : ∀ a j, s + 36 ≤ a → a < s + 42 → hI h2 a j = hI h a j) (e2 : ∀ j, 2400 ≤ j → j < 2436 → said h2 y j = said h y j) : ErrC h2 s (said h2 y) ∧ ErrW (said h2 y) := by
  have C := I.2.2
  refine ⟨fun e he => ?_, fun e he => ?_⟩
  · rw [e1 _ _ (by omega) (by omega), e2 _ (by omega) (by omega)]
    refine ⟨(C.1.2.2.2.2.2 e he).1, fun q j h1 h2 => ?_⟩
    rw [e1 _ _ (by omega) (by omega), e2 _ (by omega) (by omega)]
    exact (C.1.2.2.2.2.2 e he).2 q j h1 h2
  · rw [e2 _ (by omega) (by omega)]
    rcases C.2.1.1.2.2.2.2.2.2 e he with q | ⟨q1, q2, q3⟩
    · exact Or.inl q
    · exact Or.inr ⟨q1, by rw [e2 _ (by omega) (by omega)]; exact q2, fun j h1 h2 => by rw [e2 _ (by omega) (by omega)]; exact q3 j h1 h2⟩
theorem InvB.n34 {G : GG} {u0 : Nat} {h h2 : HP} {b y s p : Nat} (I : InvB G u0 h b y s p) (e3 : said h2 y 3 = said h y 3) (e4 : said h2 y 4 = said h y 4) : (0 ≤ (said h2 y 3).toInt ∧ (said h2 y 3).toInt ≤ 9999) ∧ 0 ≤ (said h2 y 4).toInt := by
  have C := I.2.2
  rw [e3, e4]
  exact ⟨⟨C.2.1.1.1.2.2.2.1, C.2.2.1⟩, C.2.1.1.1.2.2.2.2⟩
theorem p_seed (G : GG) (u0 : Nat) (h : HP) (I : Inv G u0 h) (x1 : Int32) : Pr (Inv G u0) G G.1 (G.1 + 119) mX11_seed mX12_seed [.int x1] h := by
  obtain ⟨s, p, I⟩ := I
  unfold Pr Inv
  generalize G.1 = b at *
  generalize hy : b + 119 = y at *
  have M := I.1.2.2.2.1
  obtain ⟨m1, m2, m3⟩ := M.sd
  have ns := I.2.1.1
  refine e_X11_seed ⟨fun c => ⟨I.1.2.1, s, I.2.1.2.1, I.2.1.2.2.2.1.1, _, rfl, ?_⟩, fun c => ⟨_, rfl, ?_⟩⟩
  · refine e_X12_seed ⟨fun _ => ⟨(M.1).up (kp_sI ..), y + 13, m1, m2.up (kp_sI ..), vin_nI (k := 4) (by show 4 < hN h (y + 13); omega) (by show hN h (y + 13) < _; omega), vin_nI (k := 4) (by show 4 < hN h (y + 13); omega) (by show hN h (y + 13) < _; omega), ?_, s, p, ?_⟩, fun q => absurd c q⟩
    · rw [hI_ne _ _ (Or.inl (by omega)), I.2.2.1.1 4 (by omega)]
      rfl
    · have C := I.2.2
      have hs : ∀ j, j ≠ 4 → said (sI (sI h s 4 x1) (y + 13) 4 x1) y j = said h y j := fun j hj => by
        unfold said
        rw [hI_ne _ _ (Or.inr hj), hI_ne _ _ (Or.inl (by omega))]
      have h4 : said (sI (sI h s 4 x1) (y + 13) 4 x1) y 4 = x1 := hI_eq _ _ _ _
      have hc : ∀ a k, s < a → a < s + 42 → hI (sI (sI h s 4 x1) (y + 13) 4 x1) a k = hI h a k := fun a k h1 h2 => by
        rw [hI_ne _ _ (Or.inl (by omega)), hI_ne _ _ (Or.inl (by omega))]
      have E := I.err (fun a j h1 h2 => hc a j (by omega) h2) (fun j h1 h2 => hs j (by omega))
      refine I.num (P := fun a k => (a = s ∧ k = 4) ∨ (a = y + 13 ∧ k = 4)) (RP := fun _ _ => False) ((FrJ.sI _ _ (Or.inl ⟨rfl, rfl⟩)).tr (FrJ.sI _ _ (Or.inr ⟨rfl, rfl⟩))) (fun a k q => by unfold NumP; omega) (fun _ _ q => q.elim) ?_ ?_ ?_ (I.lik (fun j => hc _ _ (by omega) (by omega)) (fun j _ => hs _ (by omega))) E.1 E.2
      · rw [hs 3 (by omega), ← C.1.1 3 (by omega), hI_ne _ _ (Or.inl (by omega)), hI_ne _ _ (Or.inr (by omega))]
      · rw [h4, hI_ne _ _ (Or.inl (by omega)), hI_eq]
      · rw [hs 3 (by omega), h4]
        exact ⟨⟨C.2.1.1.1.2.2.2.1, C.2.2.1⟩, by rw [ti_le] at c; exact c⟩
  · exact e_X12_seed ⟨fun q => absurd q c, fun _ => ⟨rfl, s, p, I⟩⟩
theorem p_count (G : GG) (u0 : Nat) (h : HP) (I : Inv G u0 h) (x1 : Int32) : Pr (Inv G u0) G G.1 (G.1 + 119) mX11_count mX12_count [.int x1] h := by
  obtain ⟨s, p, I⟩ := I
  unfold Pr Inv
  generalize G.1 = b at *
  generalize hy : b + 119 = y at *
  have M := I.1.2.2.2.1
  have C := I.2.2
  have kb := I.1.2.1
  have n2 := I.2.1.2.1
  have ks := I.2.1.2.2.2.1.1
  obtain ⟨m1, m2, m3⟩ := M.sd
  obtain ⟨t1, t2, t3⟩ : hR h y 2 = some (y + 2) ∧ Kd G h (y + 2) 14 ∧ hN h (y + 2) = 2 := M.2 (2, 2, 14, 2) (by decide)
  obtain ⟨-, a1, a2, a3⟩ : _ ∧ hR h b 0 = some (b + 1) ∧ Kd G h (b + 1) 8 ∧ hN h (b + 1) = 11 := I.1.2.2.1 (0, 0, 1, 8, 11) (by decide)
  obtain ⟨n, -, w1, w2, -⟩ := I.1.2.2.2.2.1
  obtain ⟨nl, nw, La, Wi, Im, T, -⟩ := I.1.2.2.2.2.2
  have vv : ∀ k, k < 5 → vp_in (nI k) (hN h (y + 13)) := fun k hk => vin_nI (by omega) (by omega)
  have vt : ∀ k, k < 2 → vp_in (nI k) (hN h (y + 2)) := fun k hk => vin_nI (by omega) (by omega)
  have cc : ∀ k, k < 5 → hI h (y + 13) (nI k).toNatClampNeg = hI h s k := fun k hk => by
    rw [cl_nI (by omega)]
    exact (C.1.1 k hk).symm
  have ew : cntF (wallB (tg h s)) 6 24 = cntF (wallB (sd h y)) 6 24 := cntF_congr _ _ (fun j h1 h2 => by
    unfold wallB
    rw [(C.1.2.2.2.1 j (by omega)).1]
    rfl)
  refine e_X11_count (by omega) ⟨fun c0 => ⟨kb, s, n2, ks, _, rfl, e_X12_count (by omega) ⟨fun _ => ⟨M.1, _, m1, m2, c0 ▸ vv 0 (by omega), c0 ▸ congrArg (fun z => some (Value.int z)) (cc 0 (by omega)), s, p, I⟩, fun q => absurd c0 q⟩⟩, fun c0 => ⟨fun c1 => ⟨kb, s, n2, ks, _, rfl, e_X12_count (by omega) ⟨fun q => absurd q c0, fun _ => ⟨fun _ => ⟨M.1, _, m1, m2, c1 ▸ vv 1 (by omega), c1 ▸ congrArg (fun z => some (Value.int z)) (cc 1 (by omega)), s, p, I⟩, fun q => absurd c1 q⟩⟩⟩, fun c1 => ⟨fun c2 => ⟨kb, s, n2, ks, _, rfl, e_X12_count (by omega) ⟨fun q => absurd q c0, fun _ => ⟨fun q => absurd q c1, fun _ => ⟨fun _ => ⟨M.1, _, m1, m2, c2 ▸ vv 2 (by omega), c2 ▸ congrArg (fun z => some (Value.int z)) (cc 2 (by omega)), s, p, I⟩, fun q => absurd c2 q⟩⟩⟩⟩, fun c2 => ⟨fun c3 => ?_, fun c3 => ⟨fun c4 => ?_, fun c4 => ⟨fun c5 => ?_, fun c5 => ⟨fun c6 => ?_, fun c6 => ⟨fun c7 => ?_, fun c7 => ⟨fun c8 => ?_, fun c8 => ?_⟩⟩⟩⟩⟩⟩⟩⟩⟩
  · refine ⟨kb, s, n2, ks, s_wallCount I.2.1.2.2.2.1 ⟨_, rfl, _, rfl, e_X12_count (by omega) ⟨fun q => absurd q c0, fun _ => ⟨fun q => absurd q c1, fun _ => ⟨fun q => absurd q c2, fun _ => ⟨fun _ => ⟨M.1, r_wallMany (by omega) M C.2.1.2.2.1 ⟨_, rfl, by rw [ew], s, p, I⟩⟩, fun q => absurd c3 q⟩⟩⟩⟩⟩⟩
  · subst c4
    exact ⟨kb, s, n2, ks, _, rfl, e_X12_count (by omega) ⟨fun q => absurd q c0, fun _ => ⟨fun q => absurd q c1, fun _ => ⟨fun q => absurd q c2, fun _ => ⟨fun q => absurd q c3, fun _ => ⟨fun _ => ⟨M.1, _, m1, m2, vv 3 (by omega), congrArg (fun z => some (Value.int z)) (cc 3 (by omega)), s, p, I⟩, fun q => absurd rfl q⟩⟩⟩⟩⟩⟩
  · subst c5
    exact ⟨kb, s, n2, ks, _, rfl, e_X12_count (by omega) ⟨fun q => absurd q c0, fun _ => ⟨fun q => absurd q c1, fun _ => ⟨fun q => absurd q c2, fun _ => ⟨fun q => absurd q c3, fun _ => ⟨fun q => absurd q c4, fun _ => ⟨fun _ => ⟨M.1, _, m1, m2, vv 4 (by omega), congrArg (fun z => some (Value.int z)) (cc 4 (by omega)), s, p, I⟩, fun q => absurd rfl q⟩⟩⟩⟩⟩⟩⟩
  · subst c6
    exact ⟨kb, _, rfl, e_X12_count (by omega) ⟨fun q => absurd q c0, fun _ => ⟨fun q => absurd q c1, fun _ => ⟨fun q => absurd q c2, fun _ => ⟨fun q => absurd q c3, fun _ => ⟨fun q => absurd q c4, fun _ => ⟨fun q => absurd q c5, fun _ => ⟨fun _ => ⟨M.1, _, t1, t2, vt 0 (by omega), congrArg (fun z => some (Value.int z)) (T.2.2.2.2.1.trans T.2.2.1.symm), s, p, I⟩, fun q => absurd rfl q⟩⟩⟩⟩⟩⟩⟩⟩
  · subst c7
    exact ⟨kb, _, rfl, e_X12_count (by omega) ⟨fun q => absurd q c0, fun _ => ⟨fun q => absurd q c1, fun _ => ⟨fun q => absurd q c2, fun _ => ⟨fun q => absurd q c3, fun _ => ⟨fun q => absurd q c4, fun _ => ⟨fun q => absurd q c5, fun _ => ⟨fun q => absurd q c6, fun _ => ⟨fun _ => ⟨M.1, _, t1, t2, vt 1 (by omega), congrArg (fun z => some (Value.int z)) (T.2.2.2.2.2.1.trans T.2.2.2.1.symm), s, p, I⟩, fun q => absurd rfl q⟩⟩⟩⟩⟩⟩⟩⟩⟩
  · subst c8
    exact ⟨kb, _, a1, a2, _, rfl, e_X12_count (by omega) ⟨fun q => absurd q c0, fun _ => ⟨fun q => absurd q c1, fun _ => ⟨fun q => absurd q c2, fun _ => ⟨fun q => absurd q c3, fun _ => ⟨fun q => absurd q c4, fun _ => ⟨fun q => absurd q c5, fun _ => ⟨fun q => absurd q c6, fun _ => ⟨fun q => absurd q c7, fun _ => ⟨fun _ => ⟨M.1, congrArg (fun z => some (Value.int z)) (w2.trans w1.symm), s, p, I⟩, fun q => absurd rfl q⟩⟩⟩⟩⟩⟩⟩⟩⟩⟩
  · exact ⟨_, rfl, e_X12_count (by omega) ⟨fun q => absurd q c0, fun _ => ⟨fun q => absurd q c1, fun _ => ⟨fun q => absurd q c2, fun _ => ⟨fun q => absurd q c3, fun _ => ⟨fun q => absurd q c4, fun _ => ⟨fun q => absurd q c5, fun _ => ⟨fun q => absurd q c6, fun _ => ⟨fun q => absurd q c7, fun _ => ⟨fun q => absurd q c8, fun _ => ⟨rfl, s, p, I⟩⟩⟩⟩⟩⟩⟩⟩⟩⟩⟩
theorem p_like (G : GG) (u0 : Nat) (h : HP) (I : Inv G u0 h) (x1 x2 x3 : Int32) : Pr (Inv G u0) G G.1 (G.1 + 119) mX11_like mX12_like [.int x1, .int x2, .int x3] h := by
  obtain ⟨s, p, I⟩ := I
  unfold Pr Inv
  generalize G.1 = b at *
  generalize hy : b + 119 = y at *
  have M := I.1.2.2.2.1
  have C := I.2.2
  obtain ⟨m1, m2, m3⟩ := M.sd
  have ns := I.2.1.1
  have ok : ∀ {v w : Int32}, v = w → some (Value.int w) = some (Value.int v) ∧ ∃ s p, InvB G u0 h b y s p := fun e => ⟨by rw [e], s, p, I⟩
  refine e_X11_like (by omega) (s_isFamily (fun f1 => ⟨_, rfl, fun _ => ⟨_, rfl, e_X12_like (by omega) (r_isFamily (fun _ => ⟨_, rfl, fun _ => ok rfl, fun q => absurd rfl q⟩) (fun q => absurd q f1))⟩, fun q => absurd rfl q⟩) (fun f1 => ⟨_, rfl, fun q => absurd q (by decide), fun _ => ?_⟩))
  refine s_isFamily (fun f2 => ⟨_, rfl, fun _ => ⟨_, rfl, e_X12_like (by omega) (r_isFamily (fun q => absurd f1 q) (fun _ => ⟨_, rfl, fun q => absurd q (by decide), fun _ => r_isFamily (fun _ => ⟨_, rfl, fun _ => ok rfl, fun q => absurd rfl q⟩) (fun q => absurd q f2)⟩))⟩, fun q => absurd rfl q⟩) (fun f2 => ⟨_, rfl, fun q => absurd q (by decide), fun _ => ?_⟩)
  have R : ∀ {h1 : HP} {Q : Option Value → HP → Prop}, (x1 = x2 → Q (some (.int (-100))) h1) → (¬ x1 = x2 → Cal G 58 mX12_in [.long (x3.toInt64), .long (-9), .long 9] h1 (fun r12 h13 => ∃ v15, r12 = some (.int v15) ∧ ((¬ v15 = 0 → Kd G h13 y 12 ∧ ∃ q18, hR h13 y 29 = some q18 ∧ Kd G h13 q18 14 ∧ vp_in ((2256 + (12 * x1)) + x2) (hN h13 q18) ∧ vp_in ((2256 + (12 * x1)) + x2) (hN h13 q18) ∧ Q (some (.int (hI h13 q18 ((2256 + (12 * x1)) + x2).toNatClampNeg))) (sI h13 q18 ((2256 + (12 * x1)) + x2).toNatClampNeg x3)) ∧ (v15 = 0 → Q (some (.int (-100))) h13)))) → Cal G 59 mX12_like [.ref y, .int x1, .int x2, .int x3] h1 Q := fun q1 q2 => e_X12_like (by omega) (r_isFamily (fun q => absurd f1 q) (fun _ => ⟨_, rfl, fun q => absurd q (by decide), fun _ => r_isFamily (fun q => absurd f2 q) (fun _ => ⟨_, rfl, fun q => absurd q (by decide), fun _ => ⟨q1, q2⟩⟩)⟩))
  have e9 : (-9 : Int64).toInt = -9 := by simp
  have e9' : (9 : Int64).toInt = 9 := by simp
  have e8 : (9 : Int32).toInt = 9 := rfl
  refine ⟨fun c => ⟨_, rfl, R (fun _ => ok rfl) (fun q => absurd c q)⟩, fun c => ⟨fun c2 => ⟨_, rfl, R (fun q => absurd q c) (fun _ => r_in ⟨_, rfl, fun q => absurd ?_ q, fun _ => ok rfl⟩)⟩, fun c2 => ⟨fun c3 => ?_, fun c3 => ⟨_, rfl, R (fun q => absurd q c) (fun _ => r_in ⟨_, rfl, fun q => absurd ?_ q, fun _ => ok rfl⟩)⟩⟩⟩⟩
  · rw [ti_lt, tn9] at c2
    rw [e9, e9', ti64, if_neg (by omega)]
  · obtain ⟨i, hi, rfl⟩ := of_in (n := 12) f1.1 f1.2
    obtain ⟨j, hj, rfl⟩ := of_in (n := 12) f2.1 f2.2
    have ei : nI i * 12 + nI j = nI (i * 12 + j) := by
      show nI i * nI 12 + nI j = _
      rw [nM, nA]
    have ej : 2256 + 12 * nI i + nI j = nI (2256 + (i * 12 + j)) := by
      show nI 2256 + nI 12 * nI i + nI j = _
      rw [nM, nA, nA]
      congr 1
      omega
    have hij : i ≠ j := fun q => c (by rw [q])
    have st := I.2.1.2.2.2.1
    refine ⟨I.1.2.1, s, I.2.1.2.1, st.1, s + 2, st.2.1.2.1, st.2.2.2.1.1, ?_, ?_, _, rfl, R (fun q => absurd q c) (fun _ => r_in ⟨_, rfl, fun _ => ⟨(M.1).up (kp_sI ..), y + 13, m1, m2.up (kp_sI ..), ?_, ?_, ?_, s, p, ?_⟩, fun q => absurd q ?_⟩)⟩
    · rw [ei, st.2.2.2.1.2]; exact vin_nI (by omega) (by omega)
    · rw [ei, st.2.2.2.1.2]; exact vin_nI (by omega) (by omega)
    · show vp_in _ (hN h (y + 13))
      rw [ej, m3]; exact vin_nI (by omega) (by omega)
    · show vp_in _ (hN h (y + 13))
      rw [ej, m3]; exact vin_nI (by omega) (by omega)
    · rw [ei, ej, cl_nI (by omega), cl_nI (by omega), hI_ne _ _ (Or.inl (by omega)), C.1.2.2.1 _ (by omega)]
      rfl
    · rw [ei, ej, cl_nI (by omega), cl_nI (by omega)]
      generalize hh : sI (sI h (s + 2) (i * 12 + j) x3) (y + 13) (2256 + (i * 12 + j)) x3 = h2
      have hs : ∀ k, k ≠ 2256 + (i * 12 + j) → said h2 y k = said h y k := fun k hk => by
        rw [← hh]
        unfold said
        rw [hI_ne _ _ (Or.inr hk), hI_ne _ _ (Or.inl (by omega))]
      have hs2 : said h2 y (2256 + (i * 12 + j)) = x3 := by rw [← hh]; exact hI_eq _ _ _ _
      have hc : ∀ a k, a ≠ s + 2 → a ≠ y + 13 → hI h2 a k = hI h a k := fun a k h1 h2 => by
        rw [← hh, hI_ne _ _ (Or.inl h2), hI_ne _ _ (Or.inl h1)]
      have hl : ∀ k, k ≠ i * 12 + j → hI h2 (s + 2) k = hI h (s + 2) k := fun k hk => by
        rw [← hh, hI_ne _ _ (Or.inl (by omega)), hI_ne _ _ (Or.inr hk)]
      have hl2 : hI h2 (s + 2) (i * 12 + j) = x3 := by
        rw [← hh, hI_ne _ _ (Or.inl (by omega)), hI_eq]
      have E := I.err (fun a j h1 h2 => hc a j (by omega) (by omega)) (fun j h1 h2 => hs j (by omega))
      refine I.num (P := fun a k => a = s + 2 ∨ (a = y + 13 ∧ 2256 ≤ k)) (RP := fun _ _ => False) (hh ▸ (FrJ.sI _ _ (Or.inl rfl)).tr (FrJ.sI _ _ (Or.inr ⟨rfl, by omega⟩))) (fun a k q => by unfold NumP; omega) (fun _ _ q => q.elim) ?_ ?_ (I.n34 (hs 3 (by omega)) (hs 4 (by omega))) ⟨fun k hk => ?_, fun k hk => ?_, fun f hf => ?_⟩ E.1 E.2
      · rw [hs 3 (by omega), hc _ _ (by omega) (by omega)]
        exact C.1.1 3 (by omega)
      · rw [hs 4 (by omega), hc _ _ (by omega) (by omega)]
        exact C.1.1 4 (by omega)
      · by_cases hk2 : k = i * 12 + j
        · rw [hk2, hl2, hs2]
        · rw [hl k hk2, hs _ (by omega)]
          exact C.1.2.2.1 k hk
      · by_cases hk2 : k = i * 12 + j
        · rw [hk2, hs2]
          rw [ti_lt, tn9] at c2
          rw [ti_le, e8] at c3
          unfold rng
          omega
        · rw [hs _ (by omega)]
          exact C.2.1.1.2.2.1 k hk
      · rw [hs _ (by omega)]
        exact C.2.1.1.2.2.2.1 f hf
    · rw [ti_lt, tn9] at c2
      rw [ti_le, e8] at c3
      rw [e9, e9', ti64, if_pos (by omega)]
      decide
  · rw [ti_le, e8] at c3
    rw [e9, e9', ti64, if_neg (by omega)]
theorem s_isEC {G : GG} {d : Nat} {h : HP} {Q : Option Value → HP → Prop} {x z : Int32} (hQ : Q (some (.int (if (0 ≤ x.toInt ∧ x.toInt ≤ 39) ∧ 0 ≤ z.toInt ∧ z.toInt ≤ 39 then 1 else 0))) h) : Cal G d mX11_isErrandCell [.int x, .int z] h Q := by
  have e0 : (0 : Int32).toInt = 0 := rfl
  have e40 : (40 : Int32).toInt = 40 := rfl
  refine e_X11_isErrandCell ⟨fun c => ?_, fun c => ⟨fun c2 => ?_, fun c2 => ⟨fun c3 => ?_, fun c3 => ⟨fun c4 => ?_, fun c4 => ?_⟩⟩⟩⟩
  all_goals simp only [ti_lt, ti_le, e0, e40] at *
  · rw [if_neg (by omega)] at hQ; exact hQ
  · rw [if_neg (by omega)] at hQ; exact hQ
  · rw [if_neg (by omega)] at hQ; exact hQ
  · rw [if_neg (by omega)] at hQ; exact hQ
  · rw [if_pos (by omega)] at hQ; exact hQ
theorem p_errand (G : GG) (u0 : Nat) (h : HP) (I : Inv G u0 h) (x1 x2 x3 x4 x5 x6 : Int32) : Pr (Inv G u0) G G.1 (G.1 + 119) mX11_errand mX12_errand [.int x1, .int x2, .int x3, .int x4, .int x5, .int x6] h := by
  obtain ⟨s, p, I⟩ := I
  unfold Pr Inv
  generalize G.1 = b at *
  generalize hy : b + 119 = y at *
  have M := I.1.2.2.2.1
  have C := I.2.2
  obtain ⟨m1, m2, m3⟩ := M.sd
  have ns := I.2.1.1
  have ok : some (Value.int 0) = some (Value.int 0) ∧ ∃ s p, InvB G u0 h b y s p := ⟨rfl, s, p, I⟩
  have z0 : (0 : Int32).toInt = 0 := rfl
  have z6 : (6 : Int32).toInt = 6 := rfl
  have y0 : (0 : Int64).toInt = 0 := by simp
  have y5 : (5 : Int64).toInt = 5 := by simp
  have y39 : (39 : Int64).toInt = 39 := by simp
  have no : ¬ (((0 ≤ x1.toInt ∧ x1.toInt ≤ 5) ∧ famI x2) ∧ ((0 ≤ x3.toInt ∧ x3.toInt ≤ 39) ∧ 0 ≤ x4.toInt ∧ x4.toInt ≤ 39) ∧ ((0 ≤ x5.toInt ∧ x5.toInt ≤ 39) ∧ 0 ≤ x6.toInt ∧ x6.toInt ≤ 39)) → Cal G 59 mX12_errand [.ref y, .int x1, .int x2, .int x3, .int x4, .int x5, .int x6] h (fun r2 h2 => r2 = some (.int 0) ∧ ∃ s p, InvB G u0 h2 b y s p) := fun hn => by
    refine e_X12_errand (by omega) (r_in ⟨_, rfl, fun _ => ok, fun q1 => r_isFamily (fun _ => ⟨_, rfl, fun _ => ok, fun q => absurd rfl q⟩) (fun q2 => ⟨_, rfl, fun _ => ok, fun _ => r_in ⟨_, rfl, fun _ => ok, fun q3 => r_in ⟨_, rfl, fun _ => ok, fun q4 => r_in ⟨_, rfl, fun _ => ok, fun q5 => r_in ⟨_, rfl, fun q6 => absurd ?_ hn, fun _ => ok⟩⟩⟩⟩⟩)⟩)
    simp only [if10, Decidable.not_not, ti64, y0, y5, y39] at q1 q3 q4 q5 q6
    exact ⟨⟨q1, q2⟩, ⟨q3, q4⟩, q5, q6⟩
  have bad : ¬ (((0 ≤ x1.toInt ∧ x1.toInt ≤ 5) ∧ famI x2) ∧ ((0 ≤ x3.toInt ∧ x3.toInt ≤ 39) ∧ 0 ≤ x4.toInt ∧ x4.toInt ≤ 39) ∧ ((0 ≤ x5.toInt ∧ x5.toInt ≤ 39) ∧ 0 ≤ x6.toInt ∧ x6.toInt ≤ 39)) → ∃ v, some (Value.int 0) = some (Value.int v) ∧ Cal G 59 mX12_errand [.ref y, .int x1, .int x2, .int x3, .int x4, .int x5, .int x6] h (fun r2 h2 => r2 = some (.int v) ∧ ∃ s p, InvB G u0 h2 b y s p) := fun hn => ⟨_, rfl, no hn⟩
  refine e_X11_errand (by omega) ⟨fun c => bad (fun q => ?_), fun c1 => ⟨fun c => bad (fun q => ?_), fun c2 => s_isFamily (fun f => ⟨_, rfl, fun _ => bad (fun q => f q.1.2), fun q => absurd rfl q⟩) (fun f => ⟨_, rfl, fun q => absurd q (by decide), fun _ => s_isEC ⟨_, rfl, fun c => bad (fun q => ?_), fun c3 => s_isEC ⟨_, rfl, fun c4 => ?_, fun c => bad (fun q => ?_)⟩⟩⟩)⟩⟩
  · rw [ti_lt, z0] at c; omega
  · rw [ti_le, z6] at c; omega
  · rw [if10] at c; exact c q.2.1
  · rw [ti_lt, z0] at c1
    rw [ti_le, z6] at c2
    rw [if10, Decidable.not_not] at c3 c4
    obtain ⟨i, hi, rfl⟩ := of_in (n := 6) (x := x1) (by omega) (by omega)
    have st := I.2.1.2.2.2.1
    have cl : (nI i).toNatClampNeg = i := cl_nI (by omega)
    obtain ⟨r1, r2⟩ := st.2.2.2.2.2.2.2 i hi
    refine ⟨I.1.2.1, s, I.2.1.2.1, st.1, s + 4, st.2.1.2.2.2, st.2.2.2.2.2.1.1, by rw [st.2.2.2.2.2.1.2]; exact vin_nI hi (by omega), s + 36 + i, by rw [cl]; exact r1, r2, e_X1_set ⟨r2, rfl, _, rfl, ?_⟩⟩
    generalize hh1 : sI (sI (sI (sI (sI (sI h (s + 36 + i) 0 1) (s + 36 + i) 1 x2) (s + 36 + i) 2 x3) (s + 36 + i) 3 x4) (s + 36 + i) 4 x5) (s + 36 + i) 5 x6 = h1
    have F1 : FrJ (fun a k => a = s + 36 + i ∨ (a = y + 13 ∧ 2400 + 6 * i ≤ k ∧ k < 2400 + 6 * i + 6)) (fun _ _ => False) h h1 := by
      rw [← hh1]
      exact (((((FrJ.sI _ _ (Or.inl rfl)).tr (FrJ.sI _ _ (Or.inl rfl))).tr (FrJ.sI _ _ (Or.inl rfl))).tr (FrJ.sI _ _ (Or.inl rfl))).tr (FrJ.sI _ _ (Or.inl rfl))).tr (FrJ.sI _ _ (Or.inl rfl))
    have v1 : hI h1 (s + 36 + i) 0 = 1 ∧ hI h1 (s + 36 + i) 1 = x2 ∧ hI h1 (s + 36 + i) 2 = x3 ∧ hI h1 (s + 36 + i) 3 = x4 ∧ hI h1 (s + 36 + i) 4 = x5 ∧ hI h1 (s + 36 + i) 5 = x6 := by
      rw [← hh1]
      simp [hI_sI]
    clear hh1
    have tr : ∀ {a b : Int64} {z : Int32} , a.toInt ≤ z.toInt ∧ z.toInt ≤ b.toInt → ¬ (if a.toInt ≤ (z.toInt64).toInt ∧ (z.toInt64).toInt ≤ b.toInt then (1 : Int32) else 0) = 0 := fun q => by
      rw [ti64, if_pos q]; decide
    have e6 : ∀ k, 2400 + 6 * nI i + nI k = nI (2400 + 6 * i + k) := fun k => by
      show nI 2400 + nI 6 * nI i + nI k = _
      rw [nM, nA, nA]
    have e60 : 2400 + 6 * nI i = nI (2400 + 6 * i) := by
      show nI 2400 + nI 6 * nI i = _
      rw [nM, nA]
    have vv : ∀ k, k < 6 → ∀ h3, KP h1 h3 → vp_in (nI (2400 + 6 * i + k)) (hN h3 (y + 13)) := fun k hk h3 kp => by
      rw [(F1.kd m2).len kp, F1.n m2, m3]
      exact vin_nI (by omega) (by omega)
    refine e_X12_errand (by omega) (r_in ⟨_, rfl, fun q => absurd q (tr (by rw [y0, y5]; omega)), fun _ => r_isFamily (fun q => absurd f q) (fun _ => ⟨_, rfl, fun q => absurd q (by decide), fun _ => r_in ⟨_, rfl, fun q => absurd q (tr (by rw [y0, y39]; omega)), fun _ => r_in ⟨_, rfl, fun q => absurd q (tr (by rw [y0, y39]; omega)), fun _ => r_in ⟨_, rfl, fun q => absurd q (tr (by rw [y0, y39]; omega)), fun _ => r_in ⟨_, rfl, fun _ => ?_, fun q => absurd q (tr (by rw [y0, y39]; omega))⟩⟩⟩⟩⟩)⟩)
    refine ⟨F1.kd M.1, y + 13, (F1.r (fun q => q)).trans m1, F1.kd m2, by rw [e60]; exact vv 0 (by omega) _ (KP.rf _), by show vp_in (_ + nI 1) _; rw [e6 1]; exact vv 1 (by omega) _ (kp_sI ..), fun h37 g1 => ?_⟩
    have k37 : KP h1 h37 := by rw [g1]; exact (kp_sI ..).tr (kp_sI ..)
    refine ⟨by show vp_in (_ + nI 2) _; rw [e6 2]; exact vv 2 (by omega) _ k37, by show vp_in (_ + nI 3) _; rw [e6 3]; exact vv 3 (by omega) _ (k37.tr (kp_sI ..)), fun h42 g2 => ?_⟩
    have k42 : KP h1 h42 := by rw [g2]; exact (k37.tr (kp_sI ..)).tr (kp_sI ..)
    refine ⟨by show vp_in (_ + nI 4) _; rw [e6 4]; exact vv 4 (by omega) _ k42, by show vp_in (_ + nI 5) _; rw [e6 5]; exact vv 5 (by omega) _ (k42.tr (kp_sI ..)), fun h47 g3 => ⟨rfl, s, p, ?_⟩⟩
    have g4 : h47 = sI (sI (sI (sI (sI (sI h1 (y + 13) (2400 + 6 * i) 1) (y + 13) (2400 + 6 * i + 1) x2) (y + 13) (2400 + 6 * i + 2) x3) (y + 13) (2400 + 6 * i + 3) x4) (y + 13) (2400 + 6 * i + 4) x5) (y + 13) (2400 + 6 * i + 5) x6 := by
      have q1 : (2400 + 6 * nI i + 1).toNatClampNeg = 2400 + 6 * i + 1 := by show (_ + nI 1).toNatClampNeg = _; rw [e6 1, cl_nI (by omega)]
      have q2 : (2400 + 6 * nI i + 2).toNatClampNeg = 2400 + 6 * i + 2 := by show (_ + nI 2).toNatClampNeg = _; rw [e6 2, cl_nI (by omega)]
      have q3 : (2400 + 6 * nI i + 3).toNatClampNeg = 2400 + 6 * i + 3 := by show (_ + nI 3).toNatClampNeg = _; rw [e6 3, cl_nI (by omega)]
      have q4 : (2400 + 6 * nI i + 4).toNatClampNeg = 2400 + 6 * i + 4 := by show (_ + nI 4).toNatClampNeg = _; rw [e6 4, cl_nI (by omega)]
      have q5 : (2400 + 6 * nI i + 5).toNatClampNeg = 2400 + 6 * i + 5 := by show (_ + nI 5).toNatClampNeg = _; rw [e6 5, cl_nI (by omega)]
      have q0 : (2400 + 6 * nI i).toNatClampNeg = 2400 + 6 * i := by rw [e60, cl_nI (by omega)]
      rw [g3, g2, g1, q0, q1, q2, q3, q4, q5]
    clear g3 g2 g1
    have F2 : FrJ (fun a k => a = s + 36 + i ∨ (a = y + 13 ∧ 2400 + 6 * i ≤ k ∧ k < 2400 + 6 * i + 6)) (fun _ _ => False) h1 h47 := by
      rw [g4]
      exact (((((FrJ.sI _ _ (Or.inr ⟨rfl, by omega⟩)).tr (FrJ.sI _ _ (Or.inr ⟨rfl, by omega⟩))).tr (FrJ.sI _ _ (Or.inr ⟨rfl, by omega⟩))).tr (FrJ.sI _ _ (Or.inr ⟨rfl, by omega⟩))).tr (FrJ.sI _ _ (Or.inr ⟨rfl, by omega⟩))).tr (FrJ.sI _ _ (Or.inr ⟨rfl, by omega⟩))
    have v2 : said h47 y (2400 + 6 * i) = 1 ∧ said h47 y (2400 + 6 * i + 1) = x2 ∧ said h47 y (2400 + 6 * i + 2) = x3 ∧ said h47 y (2400 + 6 * i + 3) = x4 ∧ said h47 y (2400 + 6 * i + 4) = x5 ∧ said h47 y (2400 + 6 * i + 5) = x6 := by
      rw [g4]
      unfold said
      simp [hI_sI]
    have v3 : ∀ j, hI h47 (s + 36 + i) j = hI h1 (s + 36 + i) j := fun j => by
      rw [g4]
      simp only [hI_sI]
      simp [show ¬ s + 36 + i = y + 13 by omega]
    clear g4
    have F := F1.tr F2
    have fi : ∀ j, ¬ (2400 + 6 * i ≤ j ∧ j < 2400 + 6 * i + 6) → said h47 y j = said h y j := fun j hj => F.i (by omega)
    refine I.num F (fun a k q => by unfold NumP; omega) (fun _ _ q => q.elim) ?_ ?_ (I.n34 (fi 3 (by omega)) (fi 4 (by omega))) (I.lik (fun j => F.i (by omega)) (fun j hj => fi _ (by omega))) (fun e he => ?_) (fun e he => ?_)
    · rw [fi 3 (by omega), F.i (by omega)]
      exact C.1.1 3 (by omega)
    · rw [fi 4 (by omega), F.i (by omega)]
      exact C.1.1 4 (by omega)
    · by_cases hei : e = i
      · subst hei
        obtain ⟨a0, a1, a2, a3, a4, a5⟩ := v1
        obtain ⟨b0, b1, b2, b3, b4, b5⟩ := v2
        refine ⟨by rw [v3, a0, b0], fun _ j h1 h2 => ?_⟩
        rw [v3]
        have hj : j = 1 ∨ j = 2 ∨ j = 3 ∨ j = 4 ∨ j = 5 := by omega
        rcases hj with rfl | rfl | rfl | rfl | rfl
        · rw [a1, b1]
        · rw [a2, b2]
        · rw [a3, b3]
        · rw [a4, b4]
        · rw [a5, b5]
      · rw [fi _ (by omega), F.i (by omega)]
        refine ⟨(C.1.2.2.2.2.2 e he).1, fun q j h1 h2 => ?_⟩
        rw [fi _ (by omega), F.i (by omega)]
        exact (C.1.2.2.2.2.2 e he).2 q j h1 h2
    · by_cases hei : e = i
      · subst hei
        obtain ⟨b0, b1, b2, b3, b4, b5⟩ := v2
        refine Or.inr ⟨b0, by rw [b1]; unfold rng; unfold famI at f; omega, fun j h1 h2 => ?_⟩
        have hj : j = 2 ∨ j = 3 ∨ j = 4 ∨ j = 5 := by omega
        unfold rng
        rcases hj with rfl | rfl | rfl | rfl
        · rw [b2]; omega
        · rw [b3]; omega
        · rw [b4]; omega
        · rw [b5]; omega
      · rw [fi _ (by omega)]
        rcases C.2.1.1.2.2.2.2.2.2 e he with q | ⟨q1, q2, q3⟩
        · exact Or.inl q
        · exact Or.inr ⟨q1, by rw [fi _ (by omega)]; exact q2, fun j h1 h2 => by rw [fi _ (by omega)]; exact q3 j h1 h2⟩
  · rw [if10] at c; exact c q.2.2
