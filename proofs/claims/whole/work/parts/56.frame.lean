/-! ===== what leaves the invariant ===== -/
def FrJ (P RP : Nat → Nat → Prop) (h h2 : HP) : Prop := KP h h2 ∧ hZ h2 = hZ h ∧ hU h2 = hU h ∧ (∀ a k, ¬ RP a k → hR h2 a k = hR h a k) ∧ ∀ a k, ¬ P a k → hI h2 a k = hI h a k
theorem FrJ.rf (P RP : Nat → Nat → Prop) (h : HP) : FrJ P RP h h := ⟨KP.rf h, rfl, rfl, fun _ _ _ => rfl, fun _ _ _ => rfl⟩
theorem FrJ.tr {P RP : Nat → Nat → Prop} {h h1 h2 : HP} (p : FrJ P RP h h1) (q : FrJ P RP h1 h2) : FrJ P RP h h2 :=
  ⟨p.1.tr q.1, q.2.1.trans p.2.1, q.2.2.1.trans p.2.2.1, fun a k h => (q.2.2.2.1 a k h).trans (p.2.2.2.1 a k h), fun a k h => (q.2.2.2.2 a k h).trans (p.2.2.2.2 a k h)⟩
theorem FrJ.weak {P P' RP RP' : Nat → Nat → Prop} {h h2 : HP} (p : FrJ P RP h h2) (hp : ∀ a k, P a k → P' a k) (hr : ∀ a k, RP a k → RP' a k) : FrJ P' RP' h h2 := ⟨p.1, p.2.1, p.2.2.1, fun a k q => p.2.2.2.1 a k (fun z => q (hr a k z)), fun a k q => p.2.2.2.2 a k (fun z => q (hp a k z))⟩
theorem FrI.j {P : Nat → Nat → Prop} {h h2 : HP} (p : FrI P h h2) (RP : Nat → Nat → Prop) : FrJ P RP h h2 := ⟨p.1, p.2.1, p.2.2.1, fun a k _ => p.r a k, fun a k q => p.i q⟩
theorem FrJ.sI {P RP : Nat → Nat → Prop} (h : HP) {a k : Nat} (v : Int32) (hp : P a k) : FrJ P RP h (sI h a k v) := (FrI.sI h v hp).j RP
theorem FrJ.sL {P RP : Nat → Nat → Prop} (h : HP) (a k : Nat) (v : Int64) : FrJ P RP h (sL h a k v) := ⟨⟨Nat.le_refl _, Nat.le_refl _, fun _ _ => ⟨rfl, rfl⟩⟩, rfl, rfl, fun _ _ _ => rfl, fun _ _ _ => rfl⟩
theorem FrJ.sR {P RP : Nat → Nat → Prop} (h : HP) {a k : Nat} (v : Option Nat) (hp : RP a k) : FrJ P RP h (sR h a k v) := ⟨kp_sR h a k v, rfl, rfl, fun b j q => by
  rw [hR_sR, if_neg]
  rintro ⟨rfl, rfl⟩
  exact q hp, fun _ _ _ => rfl⟩
theorem FrJ.kd {P RP : Nat → Nat → Prop} {G : GG} {h h2 : HP} {a κ : Nat} (p : FrJ P RP h h2) (k : Kd G h a κ) : Kd G h2 a κ := k.up p.1
theorem FrJ.n {P RP : Nat → Nat → Prop} {G : GG} {h h2 : HP} {a κ : Nat} (p : FrJ P RP h h2) (k : Kd G h a κ) : hN h2 a = hN h a := k.len p.1
theorem FrJ.r {P RP : Nat → Nat → Prop} {h h2 : HP} (p : FrJ P RP h h2) {a k : Nat} (q : ¬ RP a k) : hR h2 a k = hR h a k := p.2.2.2.1 a k q
theorem FrJ.i {P RP : Nat → Nat → Prop} {h h2 : HP} (p : FrJ P RP h h2) {a k : Nat} (q : ¬ P a k) : hI h2 a k = hI h a k := p.2.2.2.2 a k q
theorem StSh.kp {G : GG} {h h2 : HP} {s : Nat} (kp : KP h h2) (er : ∀ a k, s ≤ a → a < s + 42 → hR h2 a k = hR h a k) (S : StSh G h s) : StSh G h2 s := by
  obtain ⟨a1, ⟨b1, b2, b3, b4⟩, ⟨c1, c2⟩, ⟨d1, d2⟩, ⟨e1, e2⟩, ⟨g1, g2⟩, k1, k2⟩ := S
  exact ⟨a1.up kp, ⟨(er _ _ (by omega) (by omega)).trans b1, (er _ _ (by omega) (by omega)).trans b2, (er _ _ (by omega) (by omega)).trans b3, (er _ _ (by omega) (by omega)).trans b4⟩, ⟨c1.up kp, (c1.len kp).trans c2⟩, ⟨d1.up kp, (d1.len kp).trans d2⟩, ⟨e1.up kp, (e1.len kp).trans e2⟩, ⟨g1.up kp, (g1.len kp).trans g2⟩, fun i hi => ⟨(er _ _ (by omega) (by omega)).trans (k1 i hi).1, (k1 i hi).2.up kp⟩, fun i hi => ⟨(er _ _ (by omega) (by omega)).trans (k2 i hi).1, (k2 i hi).2.up kp⟩⟩
theorem CoSt.fr {h h2 : HP} {s : Nat} {S : Nat → Int32} (ei : ∀ a k, s ≤ a → a < s + 42 → hI h2 a k = hI h a k) (C : CoSt h s S) : CoSt h2 s S := by
  obtain ⟨a1, a2, a3, a4, a5, a6⟩ := C
  have et : ∀ t k, t < 31 → tg h2 s t k = tg h s t k := fun t k ht => ei _ _ (by omega) (by omega)
  refine ⟨fun j hj => (ei _ _ (by omega) (by omega)).trans (a1 j hj), fun c hc => (ei _ _ (by omega) (by omega)).trans (a2 c hc), fun j hj => (ei _ _ (by omega) (by omega)).trans (a3 j hj), fun t ht => ?_, (et 30 0 (by omega)).trans a5, fun e he => ⟨(ei _ _ (by omega) (by omega)).trans (a6 e he).1, fun q j h1 h2 => (ei _ _ (by omega) (by omega)).trans ((a6 e he).2 q j h1 h2)⟩⟩
  unfold CoTh
  simp only [et t _ (show t < 31 by omega)]
  exact a4 t ht
theorem SegC.fr {h h2 : HP} {A p : Nat} {l : List Tok} (en : hN h2 A = hN h A) (ei : ∀ k, hI h2 A k = hI h A k) (S : SegC h A p l) : SegC h2 A p l := ⟨by rw [en]; exact S.1, fun j q e => (ei _).trans (S.2.1 j q e), (ei _).trans S.2.2⟩
theorem ScrC.fr {G : GG} {h h2 : HP} {a : Nat} {C : List Cla} (kp : KP h h2) (er : ∀ x k, a ≤ x → x < a + 6 → hR h2 x k = hR h x k) (ei : ∀ x k, a ≤ x → x < a + 6 → hI h2 x k = hI h x k) (S : ScrC G h a C) : ScrC G h2 a C := by
  obtain ⟨a1, ⟨b1, b2, b3, b4, b5⟩, ⟨c1, c2⟩, ⟨d1, d2⟩, ⟨e1, e2⟩, ⟨f1, f2⟩, ⟨g1, g2⟩, k⟩ := S
  refine ⟨a1.up kp, ⟨(er _ _ (by omega) (by omega)).trans b1, (er _ _ (by omega) (by omega)).trans b2, (er _ _ (by omega) (by omega)).trans b3, (er _ _ (by omega) (by omega)).trans b4, (er _ _ (by omega) (by omega)).trans b5⟩, ⟨c1.up kp, by rw [c1.len kp]; exact c2⟩, ⟨d1.up kp, (d1.len kp).trans d2⟩, ⟨e1.up kp, (e1.len kp).trans e2⟩, ⟨f1.up kp, (f1.len kp).trans f2⟩, ⟨g1.up kp, (g1.len kp).trans g2⟩, fun i q e => ?_⟩
  obtain ⟨k1, k2, k3, k4⟩ := k i q e
  refine ⟨(ei _ _ (by omega) (by omega)).trans k1, fun hq => ?_, fun hq => (ei _ _ (by omega) (by omega)).trans (k3 hq), fun l hl => ?_⟩
  · obtain ⟨p, e1, e2⟩ := k2 hq
    exact ⟨p, (ei _ _ (by omega) (by omega)).trans e1, e2.fr (c1.len kp) (fun k => ei _ _ (by omega) (by omega))⟩
  · obtain ⟨p, e1, e2⟩ := k4 l hl
    exact ⟨p, (ei _ _ (by omega) (by omega)).trans e1, e2.fr (c1.len kp) (fun k => ei _ _ (by omega) (by omega))⟩
theorem SegR.fr {h h2 : HP} {A p : Nat} {l : List Tok} (ei : ∀ j, j < l.length → hI h2 A (p + j) = hI h A (p + j)) (S : SegR h A p l) : SegR h2 A p l := fun j q e => (ei j (List.getElem?_eq_some_iff.mp e).1).trans (S j q e)
/-- a text of the reference lies in its own part of the rows -/
theorem ScrR.fr {h h2 : HP} {y t : Nat} {C : List Cla} (hc : C.length ≤ 12) (e3 : ∀ k, 400 * t ≤ k → k < 400 * t + 400 → hI h2 (y + 3) k = hI h (y + 3) k) (e5 : ∀ k, 60 * t ≤ k → k < 60 * t + 60 → hI h2 (y + 5) k = hI h (y + 5) k) (e6 : hI h2 (y + 6) t = hI h (y + 6) t) (S : ScrR h y t C) : ScrR h2 y t C := by
  obtain ⟨a1, a2⟩ := S
  refine ⟨e6.trans a1, fun i q e => ?_⟩
  have hi := (List.getElem?_eq_some_iff.mp e).1
  obtain ⟨b1, ⟨p, c1, c2, c3, c4⟩, b3, b4⟩ := a2 i q e
  refine ⟨(e5 _ (by omega) (by omega)).trans b1, ⟨p, c1, (e5 _ (by omega) (by omega)).trans c2, (e5 _ (by omega) (by omega)).trans c3, c4.fr (fun j hj => e3 _ (by omega) (by omega))⟩, fun hq => (e5 _ (by omega) (by omega)).trans (b3 hq), fun l hl => ?_⟩
  obtain ⟨p, c1, c2, c3, c4⟩ := b4 l hl
  exact ⟨p, c1, (e5 _ (by omega) (by omega)).trans c2, (e5 _ (by omega) (by omega)).trans c3, c4.fr (fun j hj => e3 _ (by omega) (by omega))⟩
theorem ScrX.fr {G : GG} {h h2 : HP} {y a t : Nat} (kp : KP h h2) (er : ∀ x k, a ≤ x → x < a + 6 → hR h2 x k = hR h x k) (ei : ∀ x k, a ≤ x → x < a + 6 → hI h2 x k = hI h x k)
    (e3 : ∀ k, 400 * t ≤ k → k < 400 * t + 400 → hI h2 (y + 3) k = hI h (y + 3) k) (e5 : ∀ k, 60 * t ≤ k → k < 60 * t + 60 → hI h2 (y + 5) k = hI h (y + 5) k) (e6 : hI h2 (y + 6) t = hI h (y + 6) t) (e7 : hI h2 (y + 7) t = hI h (y + 7) t) (S : ScrX G h y a t) : ScrX G h2 y a t := by
  obtain ⟨C, c1, c2, c3, c4, c5⟩ := S
  exact ⟨C, c1, c2, c3.fr kp er ei, c4.fr (Nat.le_trans (List.length_filter_le _ _) c1) e3 e5 e6, by rw [ei _ _ (by omega) (by omega), e7]; exact c5⟩
def Tight (b y a k : Nat) : Prop := (a = b ∧ 14 ≤ k) ∨ (a = b + 1 ∧ k = 0) ∨ a = b + 2 ∨ (a = y ∧ k = 1) ∨ (y + 1 ≤ a ∧ a ≤ y + 7) ∨ y + 19 ≤ a
def RLoose (b a k : Nat) : Prop := (a = b + 7 ∧ k = 4) ∨ (a = b + 21 ∧ k = 9) ∨ (a = b ∧ (k = 12 ∨ k = 13))
theorem ShL.fj {G : GG} {h h2 : HP} {b : Nat} {RP P : Nat → Nat → Prop} (F : FrJ P RP h h2) (hr : ∀ a k, RP a k → RLoose b a k) (S : ShL G h b clL) : ShL G h2 b clL := fun q hq => by
  obtain ⟨a1, a2, a3, a4⟩ := S q hq
  have key : ∀ q ∈ clL, ¬ (q.1 = 7 ∧ q.2.1 = 4) ∧ ¬ (q.1 = 21 ∧ q.2.1 = 9) ∧ ¬ (q.1 = 0 ∧ (q.2.1 = 12 ∨ q.2.1 = 13)) := by decide
  obtain ⟨k1, k2, k3⟩ := key q hq
  refine ⟨by rw [F.2.1]; exact a1, (F.r (fun z => ?_)).trans a2, F.kd a3, (F.n a3).trans a4⟩
  rcases hr _ _ z with z | z | z
  · exact k1 ⟨by omega, z.2⟩
  · exact k2 ⟨by omega, z.2⟩
  · exact k3 ⟨by omega, z.2⟩
def Tight2 (b y a k : Nat) : Prop := (a = b ∧ 14 ≤ k) ∨ (y + 2 ≤ a ∧ a ≤ y + 7) ∨ y + 19 ≤ a
theorem Rest.fr2 {G : GG} {u0 : Nat} {h h2 : HP} {b y : Nat} {P RP : Nat → Nat → Prop} (R : Rest G u0 h b y) (F : FrJ P RP h h2) (hp : ∀ a k, P a k → ¬ Tight2 b y a k) (hr : ∀ a k, RP a k → RLoose b a k) (ht : TapeX h2 b y) : Rest G u0 h2 b y := by
  obtain ⟨⟨g1, g2⟩, kb, S, M, -, nl, nw, La, Wi, Im, ⟨x1, x2, x3, x4, x5, x6, x7, x8⟩, I, D, B1, B2, B3⟩ := R
  have ei : ∀ a k, Tight2 b y a k → hI h2 a k = hI h a k := fun a k ht => F.i (fun z => hp a k z ht)
  have er : ∀ a k, ¬ RLoose b a k → hR h2 a k = hR h a k := fun a k ht => F.r (fun z => ht (hr a k z))
  have T : ∀ {a k}, y + 19 ≤ a → Tight2 b y a k := fun h => Or.inr (Or.inr h)
  have T2 : ∀ {a k}, y + 2 ≤ a → a ≤ y + 7 → Tight2 b y a k := fun h h' => Or.inr (Or.inl ⟨h, h'⟩)
  have em : ∀ k, imd h2 y k = imd h y k := fun k => by unfold imd; rw [ei _ _ (T (by omega))]
  have em' : imd h2 y = imd h y := funext em
  have es : ∀ k, imS h2 y k = imS h y k := fun k => funext (fun j => ei _ _ (T (by omega)))
  have RL : ∀ {a k}, b ≠ a → b + 7 ≠ a → b + 21 ≠ a → ¬ RLoose b a k := fun h1 h2 h3 z => by rcases z with z | z | z <;> omega
  have scr : ∀ a t, y + 21 ≤ a → ScrX G h y a t → ScrX G h2 y a t := fun a t ha S => S.fr F.1 (fun x k h1 _ => er _ _ (RL (by omega) (by omega) (by omega))) (fun x k h1 _ => ei _ _ (T (by omega))) (fun k _ _ => ei _ _ (T2 (by omega) (by omega))) (fun k _ _ => ei _ _ (T2 (by omega) (by omega))) (ei _ _ (T2 (by omega) (by omega))) (ei _ _ (T2 (by omega) (by omega)))
  refine ⟨⟨g1, g2⟩, F.kd kb, S.fj F hr, ⟨F.kd M.1, fun q hq => ⟨(er _ _ (RL (by omega) (by omega) (by omega))).trans (M.2 q hq).1, F.kd (M.2 q hq).2.1, (F.n (M.2 q hq).2.1).trans (M.2 q hq).2.2⟩⟩, ht, nl, nw, La, Wi, Im, ⟨x1, x2, (ei _ _ (Or.inl ⟨rfl, by omega⟩)).trans x3, (ei _ _ (Or.inl ⟨rfl, by omega⟩)).trans x4, (ei _ _ (T2 (by omega) (by omega))).trans x5, (ei _ _ (T2 (by omega) (by omega))).trans x6, fun i hi => ?_, fun i hi => ?_⟩, fun k hk => ?_, ?_, ?_⟩
  · obtain ⟨z1, z2, z3, z4⟩ := x7 i hi
    exact ⟨(er _ _ (RL (by omega) (by omega) (by omega))).trans z1, z2, by rw [F.2.1]; exact z3, scr _ _ z2 z4⟩
  · obtain ⟨z1, z2, z3, z4⟩ := x8 i hi
    exact ⟨(er _ _ (RL (by omega) (by omega) (by omega))).trans z1, z2, by rw [F.2.1]; exact z3, scr _ _ z2 z4⟩
  · rcases I k hk with ⟨z1, z2⟩ | ⟨z1, z2, z3, z4, z5, z6, z7, z8⟩
    · exact Or.inl ⟨(er _ _ (RL (by omega) (by omega) (by omega))).trans z1, (ei _ _ (T (by omega))).trans z2⟩
    · rw [es]
      exact Or.inr ⟨(er _ _ (RL (by omega) (by omega) (by omega))).trans z1, (ei _ _ (T (by omega))).trans z2, z3, by rw [F.2.1]; exact z4, z5.kp F.1 (fun a k h1 _ => er _ _ (RL (by omega) (by omega) (by omega))), z6.fr (fun a k h1 _ => ei _ _ (T (by omega))), z7, z8⟩
  · unfold DisX
    simp only [em]
    exact D
  · unfold BudX
    rw [em', F.2.1, F.2.2.1]
    exact ⟨B1, B2, B3⟩
theorem Rest.fr {G : GG} {u0 : Nat} {h h2 : HP} {b y : Nat} {P RP : Nat → Nat → Prop} (R : Rest G u0 h b y) (F : FrJ P RP h h2) (hp : ∀ a k, P a k → ¬ Tight b y a k) (hr : ∀ a k, RP a k → RLoose b a k) : Rest G u0 h2 b y := by
  have ei : ∀ a k, Tight b y a k → hI h2 a k = hI h a k := fun a k ht => F.i (fun z => hp a k z ht)
  refine R.fr2 F (fun a k z q => hp a k z ?_) hr ?_
  · unfold Tight2 at q
    unfold Tight
    omega
  · obtain ⟨n, t1, t2, t3, t4⟩ := R.2.2.2.2.1
    refine ⟨n, t1, (ei _ _ (Or.inr (Or.inl ⟨rfl, rfl⟩))).trans t2, (ei _ _ (Or.inr (Or.inr (Or.inr (Or.inl ⟨rfl, rfl⟩))))).trans t3, fun k hk => ?_⟩
    rw [ei _ _ (Or.inr (Or.inr (Or.inl rfl))), ei (y + 1) k (Or.inr (Or.inr (Or.inr (Or.inr (Or.inl ⟨by omega, by omega⟩)))))]
    exact t4 k hk
theorem NowX.fr {G : GG} {h h2 : HP} {b s p : Nat} {P RP : Nat → Nat → Prop} (N : NowX G h b s p) (F : FrJ P RP h h2) (hr : ∀ a k, RP a k → (a = b + 7 ∧ k = 4) ∨ (a = b + 21 ∧ k = 9)) : NowX G h2 b s p := by
  obtain ⟨n1, n2, n3, n4, n5⟩ := N
  have er : ∀ a k, b + 7 ≠ a → b + 21 ≠ a → hR h2 a k = hR h a k := fun a k h1 h3 => F.r (fun z => by rcases hr a k z with z | z <;> omega)
  exact ⟨n1, (er _ _ (by omega) (by omega)).trans n2, (er _ _ (by omega) (by omega)).trans n3, n4.kp F.1 (fun a k _ _ => er _ _ (by omega) (by omega)), n5.kp F.1 (fun a k _ _ => er _ _ (by omega) (by omega))⟩
/-- cells that the invariant does not read, but for the scratch of a State not in use -/
def Scr (b y p a k : Nat) : Prop := (a = b + 1 ∧ 1 ≤ k) ∨ (b + 3 ≤ a ∧ a ≤ b + 11) ∨ (b + 21 ≤ a ∧ a ≤ b + 34) ∨ (p ≤ a ∧ a < p + 42) ∨ (a = y ∧ k ≠ 1) ∨ (y + 8 ≤ a ∧ a ≤ y + 12) ∨ (y + 14 ≤ a ∧ a ≤ y + 18)
def Scr2 (b a k : Nat) : Prop := (a = b + 7 ∧ k = 4) ∨ (a = b + 21 ∧ k = 9)
theorem SumsOK.fr {h h2 : HP} {b : Nat} {S : Nat → Int32} (ei : ∀ a k, b + 16 ≤ a → a ≤ b + 20 → hI h2 a k = hI h a k) (H : SumsOK h b S) : SumsOK h2 b S := fun x y hx hy => by
  obtain ⟨a1, a2, a3, a4, a5⟩ := H x y hx hy
  exact ⟨by rw [ei _ _ (by omega) (by omega)]; exact a1, by rw [ei _ _ (by omega) (by omega)]; exact a2, by rw [ei _ _ (by omega) (by omega)]; exact a3, by rw [ei _ _ (by omega) (by omega)]; exact a4, by rw [ei _ _ (by omega) (by omega)]; exact a5⟩
theorem BorZ.fr {h h2 : HP} {b : Nat} (ei : ∀ a k, b + 16 ≤ a → a ≤ b + 20 → hI h2 a k = hI h a k) (H : BorZ h b) : BorZ h2 b := fun i hi => by
  rw [ei _ _ (by omega) (by omega), ei (b + 17) _ (by omega) (by omega), ei (b + 18) _ (by omega) (by omega), ei (b + 16) _ (by omega) (by omega), ei (b + 17) _ (by omega) (by omega), ei (b + 18) _ (by omega) (by omega), ei (b + 19) _ (by omega) (by omega), ei (b + 20) _ (by omega) (by omega)]
  exact H i hi
theorem Core.fr {h h2 : HP} {b y s : Nat} (e1 : ∀ k, hI h2 (y + 13) k = hI h (y + 13) k) (e2 : ∀ a k, s ≤ a → a < s + 42 → hI h2 a k = hI h a k) (e3 : ∀ a k, b + 16 ≤ a → a ≤ b + 20 → hI h2 a k = hI h a k) (C : Core h b y s) : Core h2 b y s := by
  have es : said h2 y = said h y := funext e1
  obtain ⟨c1, c2, c3, c4, c5⟩ := C
  refine ⟨by rw [es]; exact c1.fr e2, by rw [es]; exact c2, by rw [es]; exact c3, ?_, c5.fr e3⟩
  rw [es]
  exact c4.imp id (fun H => H.fr e3)
theorem InvB.scr {G : GG} {u0 : Nat} {h h2 : HP} {b y s p : Nat} (I : InvB G u0 h b y s p) (F : FrJ (Scr b y p) (Scr2 b) h h2) : InvB G u0 h2 b y s p := by
  obtain ⟨R, N, C⟩ := I
  have g := R.1
  have n := N.1
  refine ⟨R.fr F (fun a k z => ?_) (fun a k z => ?_), N.fr F (fun a k z => z), C.fr (fun k => F.i ?_) (fun a k h1 h2 => F.i ?_) (fun a k h1 h2 => F.i ?_)⟩
  · unfold Scr at z
    unfold Tight
    omega
  · unfold Scr2 at z
    unfold RLoose
    omega
  · unfold Scr; omega
  · unfold Scr; omega
  · unfold Scr; omega
