/-! ===== a land ===== -/
def Tight3 (b y a k : Nat) : Prop := (a = b ∧ 14 ≤ k) ∨ (y + 2 ≤ a ∧ a ≤ y + 3) ∨ (y + 5 ≤ a ∧ a ≤ y + 7) ∨ y + 19 ≤ a
theorem Rest.fr3 {G : GG} {u0 : Nat} {h h2 : HP} {b y : Nat} {P RP : Nat → Nat → Prop} (R : Rest G u0 h b y) (F : FrJ P RP h h2) (hp : ∀ a k, P a k → ¬ Tight3 b y a k) (hr : ∀ a k, RP a k → RLoose b a k) (ht : TapeX h2 b y) : Rest G u0 h2 b y := by
  obtain ⟨⟨g1, g2⟩, kb, S, M, -, nl, nw, La, Wi, Im, ⟨x1, x2, x3, x4, x5, x6, x7, x8⟩, I, D, B1, B2, B3⟩ := R
  have ei : ∀ a k, Tight3 b y a k → hI h2 a k = hI h a k := fun a k ht => F.i (fun z => hp a k z ht)
  have er : ∀ a k, ¬ RLoose b a k → hR h2 a k = hR h a k := fun a k ht => F.r (fun z => ht (hr a k z))
  have T : ∀ {a k}, y + 19 ≤ a → Tight3 b y a k := fun h => Or.inr (Or.inr (Or.inr h))
  have T2 : ∀ {a k}, y + 2 ≤ a → a ≤ y + 7 → a ≠ y + 4 → Tight3 b y a k := fun h h' h'' => by unfold Tight3; omega
  have em : ∀ k, imd h2 y k = imd h y k := fun k => by unfold imd; rw [ei _ _ (T (by omega))]
  have em' : imd h2 y = imd h y := funext em
  have es : ∀ k, imS h2 y k = imS h y k := fun k => funext (fun j => ei _ _ (T (by omega)))
  have RL : ∀ {a k}, b ≠ a → b + 7 ≠ a → b + 21 ≠ a → ¬ RLoose b a k := fun h1 h2 h3 z => by rcases z with z | z | z <;> omega
  have scr : ∀ a t, y + 21 ≤ a → ScrX G h y a t → ScrX G h2 y a t := fun a t ha S => S.fr F.1 (fun x k h1 _ => er _ _ (RL (by omega) (by omega) (by omega))) (fun x k h1 _ => ei _ _ (T (by omega))) (fun k _ _ => ei _ _ (T2 (by omega) (by omega) (by omega))) (fun k _ _ => ei _ _ (T2 (by omega) (by omega) (by omega))) (ei _ _ (T2 (by omega) (by omega) (by omega))) (ei _ _ (T2 (by omega) (by omega) (by omega)))
  refine ⟨⟨g1, g2⟩, F.kd kb, S.fj F hr, ⟨F.kd M.1, fun q hq => ⟨(er _ _ (RL (by omega) (by omega) (by omega))).trans (M.2 q hq).1, F.kd (M.2 q hq).2.1, (F.n (M.2 q hq).2.1).trans (M.2 q hq).2.2⟩⟩, ht, nl, nw, La, Wi, Im, ⟨x1, x2, (ei _ _ (Or.inl ⟨rfl, by omega⟩)).trans x3, (ei _ _ (Or.inl ⟨rfl, by omega⟩)).trans x4, (ei _ _ (T2 (by omega) (by omega) (by omega))).trans x5, (ei _ _ (T2 (by omega) (by omega) (by omega))).trans x6, fun i hi => ?_, fun i hi => ?_⟩, fun k hk => ?_, ?_, ?_⟩
  · obtain ⟨z1, z2, z3, z4⟩ := x7 i hi
    exact ⟨(er _ _ (RL (by omega) (by omega) (by omega))).trans z1, z2, by rw [F.2.1]; exact z3, scr _ _ z2 z4⟩
  · obtain ⟨z1, z2, z3, z4⟩ := x8 i hi
    exact ⟨(er _ _ (RL (by omega) (by omega) (by omega))).trans z1, z2, by rw [F.2.1]; exact z3, scr _ _ z2 z4⟩
  · rcases I k hk with ⟨z1, z2⟩ | ⟨z1, z2, z3, z4, z5, z6, z7, z8⟩
    · exact Or.inl ⟨(er _ _ (RL (by omega) (by omega) (by omega))).trans z1, (ei _ _ (T (by omega))).trans z2⟩
    · rw [es]
      exact Or.inr ⟨(er _ _ (RL (by omega) (by omega) (by omega))).trans z1, (ei _ _ (T (by omega))).trans z2, z3, by rw [F.2.1]; exact z4, z5.kp F.1 (fun a k h1 _ => er _ _ (RL (by omega) (by omega) (by omega))), z6.fr (fun a k h1 _ => ei _ _ (T (by omega))), z7, z8⟩
  · unfold DisX
    simp only [em]
    exact D
  · unfold BudX
    rw [em', F.2.1, F.2.2.1]
    exact ⟨B1, B2, B3⟩
theorem TbSh.fj {G : GG} {h h2 : HP} {b : Nat} {P RP : Nat → Nat → Prop} (F : FrJ P RP h h2) (hr : ∀ k, ¬ RP (b + 15) k) (T : TbSh G h b) : TbSh G h2 b := by
  obtain ⟨a, ⟨b1, b2, b3, b4, b5⟩, c⟩ := T
  exact ⟨F.kd a, ⟨(F.r (hr _)).trans b1, (F.r (hr _)).trans b2, (F.r (hr _)).trans b3, (F.r (hr _)).trans b4, (F.r (hr _)).trans b5⟩, fun a h1 h2 => ⟨F.kd (c a h1 h2).1, (F.n (c a h1 h2).1).trans (c a h1 h2).2⟩⟩
def LdP (h : HP) (p : Nat) (s : LSt) : Prop := (hI h p 0 = nI s.2.1 ∧ hI h p 1 = nI s.2.2.1 ∧ hI h p 2 = nI s.2.2.2.2.2.length ∧ hI h p 3 = 0) ∧ (∀ c, c < 1600 → hI h (p + 1) c = s.2.2.2.2.1 c) ∧ (∀ i a, s.2.2.2.2.2[i]? = some a → hsT h p i a) ∧ (∀ t, s.2.2.2.2.2.length ≤ t → t < 31 → tg h p t 0 = 0) ∧ ∀ e, e < 6 → hI h (p + 36 + e) 0 = 0
theorem LdP.fr {h h2 : HP} {p : Nat} {s : LSt} (L : LdP h p s) (hl : s.2.2.2.2.2.length ≤ 6) (ei : ∀ a k, p ≤ a → a < p + 42 → (a = p → k ≠ 4) → a ≠ p + 2 → hI h2 a k = hI h a k) : LdP h2 p s := by
  obtain ⟨⟨l4, l5, l6, l7⟩, l8, l9, l10, l11⟩ := L
  refine ⟨⟨(ei _ _ (by omega) (by omega) (by omega) (by omega)).trans l4, (ei _ _ (by omega) (by omega) (by omega) (by omega)).trans l5, (ei _ _ (by omega) (by omega) (by omega) (by omega)).trans l6, (ei _ _ (by omega) (by omega) (by omega) (by omega)).trans l7⟩, fun c hc => (ei _ _ (by omega) (by omega) (by omega) (by omega)).trans (l8 c hc), fun i a ha => ?_, fun t h1 h2 => (ei _ _ (by omega) (by omega) (by omega) (by omega)).trans (l10 t h1 h2), fun e he => (ei _ _ (by omega) (by omega) (by omega) (by omega)).trans (l11 e he)⟩
  have hi := (List.getElem?_eq_some_iff.mp ha).1
  have := l9 i a ha
  have e : ∀ k, tg h2 p i k = tg h p i k := fun k => ei _ _ (by omega) (by omega) (by omega) (by omega)
  unfold hsT at *
  simp only [e]
  exact this
section PL
variable {B : Nat → Int32} {n : Nat} {t : LSt} {S S' : Nat → Int32}
theorem lnd_row (LP : LsP B n t) (L : LndS t S S') {u : Nat} (hu : u < 54) (h : tS S' u 0 = 1) : ∃ a, t.2.2.2.2.2[u]? = some a ∧ u < t.2.2.2.2.2.length := by
  by_cases c : u < t.2.2.2.2.2.length
  · exact ⟨_, List.getElem?_eq_getElem c, c⟩
  · rw [L.2.2.2.2.1 u (by omega) hu] at h
    exact absurd h (by decide)
theorem lnd_wf (W : WF S) (LP : LsP B n t) (no : ¬ outH t) (L : LndS t S S') : WF S' := by
  have L' := L
  obtain ⟨⟨s0, s1, s2, s3, s4⟩, sc, sf, sr, sz, se⟩ := L
  have LP' := LP
  obtain ⟨-, p2, p3, p4, p5, p6, p7⟩ := LP
  have z1 : ∀ {k : Nat}, k < 1000 → (nI k).toInt = (k : Int) := fun hk => ti_nI (by omega)
  have one : ∀ i a, t.2.2.2.2.2[i]? = some a → tS S' i 0 = 1 := fun i a ha => sr i a ha 0 (by omega)
  refine ⟨⟨⟨?_, ?_, ?_, ?_, ?_⟩, fun c hc => by rw [sc c hc]; exact p4 c, fun j hj => by rw [sf j hj]; exact W.1.2.2.1 j hj, fun f hf => by rw [sf (13 * f) (by omega)]; exact W.1.2.2.2.1 f hf, fun u hu => ?_, fun u hu h1 => ?_, fun e he => Or.inl (se e he)⟩, ?_, fun u hu => ?_, fun u h1 h2 => sz u (by omega) h2, ?_, ?_, ?_⟩
  · unfold rng; rw [s0, z1 (by omega)]; omega
  · unfold rng; rw [s1, z1 (by omega)]; omega
  · unfold rng; rw [s2, z1 (by omega)]; omega
  · rw [s3]; decide
  · rw [s4]; exact W.1.1.2.2.2.2
  · rw [s2, z1 (by omega)]
    refine ⟨fun h1 => ?_, fun h1 => ?_⟩
    · obtain ⟨a, ha, hl⟩ := lnd_row LP' L' (by omega) h1
      omega
    · exact one u _ (List.getElem?_eq_getElem (by omega))
  · obtain ⟨a, ha, hl⟩ := lnd_row LP' L' (by omega) h1
    refine ⟨fun _ => ⟨sr u a ha 5 (by omega), sr u a ha 7 (by omega)⟩, fun z => by omega, ?_, Or.inl ⟨sr u a ha 7 (by omega), sr u a ha 8 (by omega), sr u a ha 9 (by omega)⟩⟩
    rw [sr u a ha 10 (by omega)]
    show rng 0 0 4095
    unfold rng
    decide
  · intro ⟨u, hu, h1⟩
    obtain ⟨a, ha, hl⟩ := lnd_row LP' L' (by omega) h1
    rw [s2, z1 (by omega)]
    omega
  · by_cases c : u < t.2.2.2.2.2.length
    · exact Or.inr (one u _ (List.getElem?_eq_getElem c))
    · exact Or.inl (sz u (by omega) hu)
  · intro u hu h1
    obtain ⟨a, ha, hl⟩ := lnd_row LP' L' (by omega) h1
    have ap := p6 a (List.mem_of_getElem? ha)
    have na : ¬ (t.2.1 < a.2.2.1 ∨ t.2.2.1 < a.2.2.2) := fun q => no ⟨a, List.mem_of_getElem? ha, q⟩
    unfold RctP at ap
    unfold geo
    rw [show tS S' u 1 = nI a.1 from sr u a ha 1 (by omega), show tS S' u 2 = nI a.2.1 from sr u a ha 2 (by omega), show tS S' u 3 = nI a.2.2.1 from sr u a ha 3 (by omega), show tS S' u 4 = nI a.2.2.2 from sr u a ha 4 (by omega), s0, s1, z1 (by omega), z1 (by omega), z1 (by omega), z1 (by omega), z1 (by omega), z1 (by omega)]
    omega
  · intro u hu h1
    obtain ⟨a, ha, hl⟩ := lnd_row LP' L' (by omega) h1
    exact Or.inl (sr u a ha 6 (by omega))
  · intro u v hu hv ne h1 h2 _
    obtain ⟨a, ha, hl⟩ := lnd_row LP' L' (by omega) h1
    obtain ⟨c, hc, hl2⟩ := lnd_row LP' L' (by omega) h2
    have ap := p6 a (List.mem_of_getElem? ha)
    have cp := p6 c (List.mem_of_getElem? hc)
    have cl := p7 u v a c ha hc ne
    unfold RctP at ap cp
    unfold clrR at cl
    unfold clr
    rw [show tS S' u 1 = nI a.1 from sr u a ha 1 (by omega), show tS S' u 2 = nI a.2.1 from sr u a ha 2 (by omega), show tS S' u 3 = nI a.2.2.1 from sr u a ha 3 (by omega), show tS S' u 4 = nI a.2.2.2 from sr u a ha 4 (by omega), show tS S' v 1 = nI c.1 from sr v c hc 1 (by omega), show tS S' v 2 = nI c.2.1 from sr v c hc 2 (by omega), show tS S' v 3 = nI c.2.2.1 from sr v c hc 3 (by omega), show tS S' v 4 = nI c.2.2.2 from sr v c hc 4 (by omega), z1 (by omega), z1 (by omega), z1 (by omega), z1 (by omega), z1 (by omega), z1 (by omega), z1 (by omega), z1 (by omega)]
    omega
theorem lnd_co {h : HP} {p : Nat} (P : LdP h p t) (f4 : hI h p 4 = S 4) (fe : ∀ j, j < 144 → hI h (p + 2) j = S (2256 + j)) (LP : LsP B n t) (L : LndS t S S') : CoSt h p S' := by
  obtain ⟨⟨s0, s1, s2, s3, s4⟩, sc, sf, sr, sz, se⟩ := L
  have len6 := LP.2.2.2.2.1
  obtain ⟨⟨l4, l5, l6, l7⟩, l8, l9, l10, l11⟩ := P
  refine ⟨fun j hj => ?_, fun c hc => (l8 c hc).trans (sc c hc).symm, fun j hj => (fe j hj).trans (sf j hj).symm, fun u hu => ?_, l10 30 (by omega) (by omega), fun e he => ⟨(l11 e he).trans (se e he).symm, fun q => ?_⟩⟩
  · rcases (by omega : j = 0 ∨ j = 1 ∨ j = 2 ∨ j = 3 ∨ j = 4) with rfl | rfl | rfl | rfl | rfl
    · exact l4.trans s0.symm
    · exact l5.trans s1.symm
    · exact l6.trans s2.symm
    · exact l7.trans s3.symm
    · exact f4.trans s4.symm
  · by_cases c : u < t.2.2.2.2.2.length
    · have ha : t.2.2.2.2.2[u]? = some t.2.2.2.2.2[u] := List.getElem?_eq_getElem c
      generalize t.2.2.2.2.2[u] = a at ha
      obtain ⟨g0, g1, g2, g3, g4, g5, g6, g7, g8, g9, g10, g11⟩ := l9 u a ha
      have r := sr u a ha
      have dp : deepN (tS S') 31 (nI u) = 0 := cntF_none 48 6 (fun w h1 h2 => by
        unfold wallB
        rw [sz w (by omega) (by omega)]
        rfl)
      refine ⟨g0.trans (r 0 (by omega)).symm, fun _ => ⟨fun k k1 k6 => ?_, by rw [dp]; exact g7, g8.trans (r 7 (by omega)).symm, fun _ => g10, fun q => absurd (r 7 (by omega)) q, g11.trans (r 10 (by omega)).symm⟩⟩
      rcases (by omega : k = 1 ∨ k = 2 ∨ k = 3 ∨ k = 4 ∨ k = 5 ∨ k = 6) with rfl | rfl | rfl | rfl | rfl | rfl
      · exact g1.trans (r 1 (by omega)).symm
      · exact g2.trans (r 2 (by omega)).symm
      · exact g3.trans (r 3 (by omega)).symm
      · exact g4.trans (r 4 (by omega)).symm
      · exact g5.trans (r 5 (by omega)).symm
      · exact g6.trans (r 6 (by omega)).symm
    · have e0 := sz u (by omega) (by omega)
      refine ⟨(l10 u (by omega) (by omega)).trans e0.symm, fun q => ?_⟩
      rw [e0] at q
      exact absurd q (by decide)
  · rw [se e he] at q
    exact absurd q (by decide)
end PL
theorem p_land (G : GG) (u0 : Nat) (h : HP) (I : Inv G u0 h) : Pr (Inv G u0) G G.1 (G.1 + 119) mX11_land mX12_land [] h := by
  obtain ⟨s, p, I⟩ := I
  unfold Pr Inv
  generalize G.1 = b at *
  generalize hy : b + 119 = y at *
  have kb := I.kb
  have n2 := I.now
  obtain ⟨ns, -, n3, sS, sP⟩ := I.2.1
  have hg := I.1.1
  have M := I.1.2.2.2.1
  have W := I.2.2.2.1
  have Co := I.2.2.1
  obtain ⟨n, t1, t2, t3, t4⟩ := I.1.2.2.2.2.1
  have sh := I.1.2.2.1
  obtain ⟨-, a1, a2, a3⟩ : _ ∧ hR h b 0 = some (b + 1) ∧ Kd G h (b + 1) 8 ∧ hN h (b + 1) = 11 := sh (0, 0, 1, 8, 11) (by decide)
  obtain ⟨-, c1, c2, c3⟩ : _ ∧ hR h (b + 1) 5 = some (b + 2) ∧ Kd G h (b + 2) 13 ∧ hN h (b + 2) = 400 := sh (1, 5, 2, 13, 400) (by decide)
  obtain ⟨-, e1, e2, e3⟩ : _ ∧ hR h (b + 1) 6 = some (b + 3) ∧ Kd G h (b + 3) 14 ∧ hN h (b + 3) = 401 := sh (1, 6, 3, 14, 401) (by decide)
  obtain ⟨-, f1, f2, f3⟩ : _ ∧ hR h (b + 1) 7 = some (b + 4) ∧ Kd G h (b + 4) 14 ∧ hN h (b + 4) = 401 := sh (1, 7, 4, 14, 401) (by decide)
  obtain ⟨-, g1, g2, g3⟩ : _ ∧ hR h (b + 1) 8 = some (b + 5) ∧ Kd G h (b + 5) 14 ∧ hN h (b + 5) = 401 := sh (1, 8, 5, 14, 401) (by decide)
  obtain ⟨-, i1, i2, i3⟩ : _ ∧ hR h b 1 = some (b + 6) ∧ Kd G h (b + 6) 2 ∧ hN h (b + 6) = 5 := sh (0, 1, 6, 2, 5) (by decide)
  have K : TpK G h (b + 1) := ⟨a2, ⟨c1, e1, f1, g1⟩, ⟨c2, c3⟩, fun a h1 h2 => by
    rcases (by omega : a = b + 3 ∨ a = b + 4 ∨ a = b + 5) with rfl | rfl | rfl
    · exact ⟨e2, e3⟩
    · exact ⟨f2, f3⟩
    · exact ⟨g2, g3⟩⟩
  have E : TpB h (b + 1) (fun k => hI h (b + 2) k) n := ⟨t2, t1, fun k hk => rfl, fun k hk => (t4 k hk).2⟩
  generalize hB : (fun k => hI h (b + 2) k) = B at E
  have tB : ∀ h1, (∀ k, hI h1 (y + 1) k = hI h (y + 1) k) → hI h1 y 1 = hI h y 1 → RtB h1 y B n := fun h1 q1 q2 => ⟨q2.trans t3, t1, fun k hk => by rw [q1, ← hB]; exact (t4 k hk).1.symm, E.2.2.2⟩
  have hp : b + 35 ≤ p := by omega
  refine e_X11_land (by omega) ⟨kb, b + 6, i1, b + 1, a1, p, n3, i2, s_readL (by omega) hp K E sP i2 (fun e he h9 F9 f9 => ⟨_, rfl, b + 1, (F9.r _ _).trans a1, F9.kd a2, fun z => absurd rfl z, fun _ => ?_⟩) (fun t ht h9 F9 L9 => ⟨_, rfl, b + 1, (F9.r _ _).trans a1, F9.kd a2, fun _ => ?_, fun z => absurd z (by decide)⟩)⟩
  · -- a fault
    rw [hI_ne _ _ (Or.inr (by omega)), f9]
    refine ⟨_, rfl, ?_⟩
    generalize g1 : sI h9 (b + 1) 0 0 = h1
    have F1 : FrI (fun a k => LcF b p a k ∨ (a = b + 1 ∧ k = 0)) h h1 := by
      rw [← g1]
      exact (F9.weak (fun a k z => Or.inl z)).tr (FrI.sI h9 _ (Or.inr ⟨rfl, rfl⟩))
    have z1 : hI h1 (b + 1) 0 = 0 := by rw [← g1, hI_eq]
    refine r_land (by omega) (M.fr F1) (tB h1 (fun k => F1.i (by unfold LcF; omega)) (F1.i (by unfold LcF; omega))) (fun e' he' h2 F2 f2 => ?_) (fun t ht => ?_)
    · rw [he] at he'
      obtain rfl := Sum.inl.inj he'
      have F : FrI (fun a k => (LcF b p a k ∨ (a = b + 1 ∧ k = 0)) ∨ LwF y a k) h h2 := (F1.weak (fun a k z => Or.inl z)).tr (F2.weak (fun a k z => Or.inr z))
      refine ⟨rfl, s, p, I.1.fr3 (F.j (fun _ _ => False)) (fun a k z => ?_) (fun a k z => z.elim) ⟨0, by omega, (F2.i (by unfold LwF LrF; omega)).trans z1, f2, fun k hk => by omega⟩, I.2.1.fr (F.j (fun _ _ => False)) (fun a k z => z.elim), I.2.2.fr (fun k => F.i ?_) (fun a k h1 h2 => F.i ?_) (fun a k h1 h2 => F.i ?_)⟩
      · unfold LcF LwF LrF at z
        unfold Tight3
        omega
      · unfold LcF LwF LrF
        omega
      · unfold LcF LwF LrF
        omega
      · unfold LcF LwF LrF
        omega
    · rw [he] at ht
      cases ht
  · -- a land
    generalize g1 : sI h9 (b + 1) 0 0 = h10
    have F10 : FrI (fun a k => LcF b p a k ∨ (a = b + 1 ∧ k = 0)) h h10 := by
      rw [← g1]
      exact (F9.weak (fun a k z => Or.inl z)).tr (FrI.sI h9 _ (Or.inr ⟨rfl, rfl⟩))
    have z1 : hI h10 (b + 1) 0 = 0 := by rw [← g1, hI_eq]
    have TP : LsP B n t := by
      unfold landF at ht
      obtain ⟨t', q1, q2⟩ := sbind_inr ht
      by_cases o : outH t'
      · rw [@if_pos _ (Classical.propDecidable _) o] at q2
        cases q2
      · rw [@if_neg _ (Classical.propDecidable _) o] at q2
        obtain rfl := Sum.inr.inj q2
        exact (ldF_inr (ls0_p B n) q1).1
    have len6 := TP.2.2.2.2.1
    have P10 : LdP h10 p t := LdP.fr L9.2.2.2 len6 (fun a k h1 h2 h3 h4 => by rw [← g1]; exact hI_ne _ _ (Or.inl (by omega)))
    have sS10 := sS.fr F10
    have sP10 := sP.fr F10
    refine ⟨p, (F10.r _ _).trans n3, s, (F10.r _ _).trans n2, sP10.1, e_X6_keepFeelings (by omega) ⟨sS10.1, sP10.1, s + 2, sS10.2.1.2.1, p + 2, sP10.2.1.2.1, sP10.2.2.2.1.1.sI, sS10.2.2.2.1.1.sI, ?_⟩⟩
    have nP : hN (sI h10 p 4 (hI h10 s 4)) (p + 2) = 144 := sP10.2.2.2.1.2
    have nS : hN (sI h10 p 4 (hI h10 s 4)) (s + 2) = 144 := sS10.2.2.2.1.2
    rw [nP, nS]
    refine ⟨by decide, fun h22 g22 => ⟨rfl, ?_⟩⟩
    have c144 : (Int32.ofNat 144).toNatClampNeg = 144 := by decide
    have c000 : (0 : Int32).toNatClampNeg = 0 := by decide
    rw [c144, c000] at g22
    have F22 : FrI (fun a k => (a = p ∧ k = 4) ∨ a = p + 2) h10 h22 := by
      rw [g22]
      exact (FrI.sI (P := fun a k => (a = p ∧ k = 4) ∨ a = p + 2) h10 _ (Or.inl ⟨rfl, rfl⟩)).tr (FrI.cp _ (fun _ _ _ => Or.inr rfl))
    have P22 : LdP h22 p t := LdP.fr P10 len6 (fun a k h1 h2 h3 h4 => F22.i (fun z => by omega))
    have f4 : hI h22 p 4 = said h y 4 := by
      rw [g22, hI_cp, if_neg (by omega), hI_eq, F10.i (by unfold LcF; omega)]
      exact Co.1 4 (by omega)
    have fe : ∀ j, j < 144 → hI h22 (p + 2) j = said h y (2256 + j) := fun j hj => by
      rw [g22, hI_cp, if_pos ⟨rfl, by omega, by omega⟩, hI_ne _ _ (Or.inl (by omega)), F10.i (by unfold LcF; omega), show 0 + (j - 0) = j by omega]
      exact Co.2.2.1 j hj
    refine ⟨s, (F22.r _ _).trans ((F10.r _ _).trans n2), p, (F22.r _ _).trans ((F10.r _ _).trans n3), ?_⟩
    generalize gS : sR (sR h22 b 12 (some p)) b 13 (some s) = hS
    have FS : FrJ (fun a k => ((a = p ∧ k = 4) ∨ a = p + 2) ∨ (LcF b p a k ∨ (a = b + 1 ∧ k = 0))) (fun a k => a = b ∧ (k = 12 ∨ k = 13)) h hS := by
      rw [← gS]
      exact (((F10.weak (fun a k z => Or.inr z)).tr (F22.weak (fun a k z => Or.inl z))).j _).tr ((FrJ.sR h22 _ ⟨rfl, Or.inl rfl⟩).tr (FrJ.sR _ _ ⟨rfl, Or.inr rfl⟩))
    have iS : ∀ a k, hI hS a k = hI h22 a k := fun a k => by rw [← gS]; rfl
    have r12 : hR hS b 12 = some p := by
      rw [← gS, hR_sR, if_neg (by omega), hR_sR, if_pos ⟨rfl, rfl⟩]
    have r13 : hR hS b 13 = some s := by
      rw [← gS, hR_sR, if_pos ⟨rfl, rfl⟩]
    obtain ⟨tb, Tb⟩ := TbSh.of I
    have TbS : TbSh G hS b := Tb.fj FS (fun k z => by omega)
    have sPS : StSh G hS p := sP.kp FS.1 (fun a k h1 h2 => FS.r (by omega))
    have sSS : StSh G hS s := sS.kp FS.1 (fun a k h1 h2 => FS.r (by omega))
    have ZS : BorZ hS b := I.2.2.2.2.2.2.fr (fun a j h1 h2 => FS.i (by unfold LcF; omega))
    have PS : LdP hS p t := LdP.fr P22 len6 (fun a k _ _ _ _ => iS a k)
    let S0 : Nat → Int32 := fun k => if k < 8 then hI hS p k else hI hS (p + 1) (k - 8)
    have s00 : S0 0 = nI t.2.1 := PS.1.1
    have s01 : S0 1 = nI t.2.2.1 := PS.1.2.1
    have s0c : ∀ c, c < 1600 → S0 (8 + c) = t.2.2.2.2.1 c := fun c hc => by
      show (if 8 + c < 8 then hI hS p (8 + c) else hI hS (p + 1) (8 + c - 8)) = _
      rw [if_neg (by omega), show 8 + c - 8 = c by omega]
      exact PS.2.1 c hc
    have r40 : ∀ {k : Nat}, 5 ≤ k → k ≤ 40 → rng (nI k) 5 40 := fun h1 h2 => by
      unfold rng
      rw [ti_nI (by omega)]
      omega
    have LSd : LandS hS p S0 := ⟨⟨PS.1.1.trans s00.symm, PS.1.2.1.trans s01.symm⟩, fun c hc => (PS.2.1 c hc).trans (s0c c hc).symm, ⟨by rw [s00]; exact r40 TP.2.1.1 TP.2.1.2, by rw [s01]; exact r40 TP.2.2.1.1 TP.2.2.1.2⟩, fun c hc => by rw [s0c c hc]; exact TP.2.2.2.1 c⟩
    refine ⟨b + 15, (FS.r (by omega)).trans tb, p, r12, TbS.1, s_rebuild (by omega) (by omega) TbS sPS LSd ZS (fun h34 F34 SO Z34 => ⟨rfl, p, (F34.r _ _).trans r12, F34.kd sPS.1, _, rfl, ?_⟩)⟩
    have e2 : hI h34 p 2 = nI t.2.2.2.2.2.length := (F34.i (by unfold RbF; omega)).trans PS.1.2.2.1
    rw [e2]
    have F34' : FrJ (fun a k => (((a = p ∧ k = 4) ∨ a = p + 2) ∨ (LcF b p a k ∨ (a = b + 1 ∧ k = 0))) ∨ RbF b a k) (fun a k => a = b ∧ (k = 12 ∨ k = 13)) h h34 := (FS.weak (fun a k z => Or.inl z) (fun a k z => z)).tr ((F34.j _).weak (fun a k z => Or.inr z) (fun a k z => z))
    have M34 : MdSh G h34 y := ⟨F34'.kd M.1, fun q hq => ⟨(F34'.r (by omega)).trans (M.2 q hq).1, F34'.kd (M.2 q hq).2.1, (F34'.n (M.2 q hq).2.1).trans (M.2 q hq).2.2⟩⟩
    refine r_land (by omega) M34 (tB h34 (fun k => F34'.i (by unfold LcF RbF; omega)) (F34'.i (by unfold LcF RbF; omega))) (fun e' he' => ?_) (fun t' ht' TP' no h2 F2 f2 LS => ?_)
    · rw [ht] at he'
      cases he'
    rw [ht] at ht'
    obtain rfl := Sum.inr.inj ht'
    have es : said h34 y = said h y := funext fun k => F34'.i (by unfold LcF RbF; omega)
    rw [es] at LS
    have W2 : WF (said h2 y) := lnd_wf W TP no LS
    have C34 : CoSt h34 p (said h2 y) := lnd_co (LdP.fr PS len6 (fun a k h1 h2 _ _ => F34.i (by unfold RbF; omega))) ((F34.i (by unfold RbF; omega)).trans ((iS _ _).trans f4)) (fun j hj => (F34.i (by unfold RbF; omega)).trans ((iS _ _).trans (fe j hj))) TP LS
    have FF : FrJ (fun a k => ((((a = p ∧ k = 4) ∨ a = p + 2) ∨ (LcF b p a k ∨ (a = b + 1 ∧ k = 0))) ∨ RbF b a k) ∨ (LwF y a k ∨ a = y + 13)) (fun a k => a = b ∧ (k = 12 ∨ k = 13)) h h2 := (F34'.weak (fun a k z => Or.inl z) (fun a k z => z)).tr ((F2.j _).weak (fun a k z => Or.inr z) (fun a k z => z))
    refine ⟨rfl, p, s, I.1.fr3 FF (fun a k z => ?_) (fun a k z => Or.inr (Or.inr z)) ⟨0, by omega, ?_, f2, fun k hk => by omega⟩, ⟨by omega, (F2.r _ _).trans ((F34.r _ _).trans r12), (F2.r _ _).trans ((F34.r _ _).trans r13), (sPS.fr F34).fr F2, (sSS.fr F34).fr F2⟩, C34.fr (fun a k h1 h2 => F2.i ?_), W2, ?_, Or.inr ?_, Z34.fr (fun a k h1 h2 => F2.i ?_)⟩
    · unfold LcF LwF LrF RbF at z
      unfold Tight3
      omega
    · rw [F2.i (by unfold LwF LrF; omega), F34.i (by unfold RbF; omega), iS, F22.i (by omega)]
      exact z1
    · unfold LwF LrF
      omega
    · rw [LS.1.2.2.2.1]
      decide
    · refine (SO.fr (fun a j h1 h2 => F2.i (by unfold LwF LrF; omega))).congr (LS.1.1.trans s00.symm) (LS.1.2.1.trans s01.symm) LSd.2.2.1.1.2 LSd.2.2.1.2.2 (fun c hc => (LS.2.1 c hc).trans (s0c c hc).symm)
    · unfold LwF LrF
      omega
