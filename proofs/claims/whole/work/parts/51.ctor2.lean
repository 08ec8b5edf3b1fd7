/-! ===== making rows of arrays, and the two objects ===== -/
def mkL (h : HP) (a : Nat) : List (Nat × Nat × Nat) → HP
  | [] => h
  | q :: l => mkL (sR (nw h q.2.1 q.2.2) a q.1 (some (hZ h))) a l
def sumL : List (Nat × Nat × Nat) → Nat
  | [] => 0
  | q :: l => q.2.2 + sumL l
/-- what is made, and that nothing else changes -/
def MkF (G : GG) (h h2 : HP) (a : Nat) (l : List (Nat × Nat × Nat)) : Prop :=
  KP h h2 ∧ hZ h2 = hZ h + l.length ∧ hU h2 = hU h + sumL l ∧ (∀ b k, b < hZ h → hI h2 b k = hI h b k ∧ hL h2 b k = hL h b k ∧ ((b ≠ a ∨ ∀ q ∈ l, q.1 ≠ k) → hR h2 b k = hR h b k)) ∧
  (∀ b k, hZ h ≤ b → b < hZ h + l.length → hI h2 b k = 0 ∧ hL h2 b k = 0 ∧ hR h2 b k = none) ∧ ∀ i q, l[i]? = some q → Kd G h2 (hZ h + i) q.2.1 ∧ hN h2 (hZ h + i) = q.2.2 ∧ hR h2 a q.1 = some (hZ h + i)
theorem mk_F (G : GG) (a : Nat) : ∀ (l : List (Nat × Nat × Nat)) (h : HP), G.1 ≤ hZ h → a < hZ h → (l.map (fun q => q.1)).Nodup → MkF G h (mkL h a l) a l
  | [], h, _, _, _ => ⟨KP.rf h, rfl, rfl, fun _ _ _ => ⟨rfl, rfl, fun _ => rfl⟩, fun b k h1 h2 => absurd h2 (by simp; omega), fun i q e => by simp at e⟩
  | q :: l, h, hg, ha, hn => by
    simp only [List.map_cons, List.nodup_cons] at hn
    have kp1 : KP h (sR (nw h q.2.1 q.2.2) a q.1 (some (hZ h))) := (KP.nw h _ _).tr (kp_sR _ _ _ _)
    have z1 : hZ (sR (nw h q.2.1 q.2.2) a q.1 (some (hZ h))) = hZ h + 1 := rfl
    obtain ⟨m1, m2, m3, m4, m5, m6⟩ := mk_F G a l (sR (nw h q.2.1 q.2.2) a q.1 (some (hZ h))) (by omega) (by omega) hn.2
    rw [z1] at m2 m4 m5 m6
    have nq : ∀ p ∈ l, p.1 ≠ q.1 := fun p hp e => hn.1 (by rw [← e]; exact List.mem_map.mpr ⟨p, hp, rfl⟩)
    refine ⟨kp1.tr m1, by rw [mkL, m2, List.length_cons]; omega, by rw [mkL, m3, hU_sR, hU_nw, sumL]; omega, fun b k hb => ?_, fun b k h1 h2 => ?_, fun i p e => ?_⟩
    · obtain ⟨n1, n2, n3⟩ := m4 b k (by omega)
      refine ⟨by rw [mkL, n1, hI_sR, hI_nw, if_neg (by omega)], by rw [mkL, n2, hL_sR, hL_nw, if_neg (by omega)], fun hk => ?_⟩
      rw [mkL, n3 (by
        rcases hk with hk | hk
        · exact Or.inl hk
        · exact Or.inr (fun p hp => hk p (List.mem_cons_of_mem _ hp))), hR_sR, hR_nw, if_neg, if_neg (by omega)]
      rintro ⟨e1, e2⟩
      rcases hk with hk | hk
      · exact hk e1
      · exact hk q (List.mem_cons_self) e2.symm
    · rw [List.length_cons] at h2
      by_cases hb : b = hZ h
      · obtain ⟨n1, n2, n3⟩ := m4 b k (by omega)
        refine ⟨by rw [mkL, n1, hI_sR, hI_nw, if_pos hb], by rw [mkL, n2, hL_sR, hL_nw, if_pos hb], ?_⟩
        rw [mkL, n3 (Or.inl (by omega)), hR_sR, if_neg (by omega), hR_nw, if_pos hb]
      · obtain ⟨n1, n2, n3⟩ := m5 b k (by omega) (by omega)
        exact ⟨n1, n2, n3⟩
    · cases i with
      | zero =>
        simp only [List.getElem?_cons_zero, Option.some.injEq] at e
        subst e
        have kd : Kd G (sR (nw h q.2.1 q.2.2) a q.1 (some (hZ h))) (hZ h) q.2.1 := ⟨by rw [hK_sR, hK_nw, if_pos rfl], hg, by rw [z1]; omega⟩
        refine ⟨kd.up m1, (kd.len m1).trans (by rw [hN_sR, hN_nw, if_pos rfl]), ?_⟩
        rw [mkL, (m4 a q.1 (by omega)).2.2 (Or.inr nq), hR_sR, if_pos ⟨rfl, rfl⟩]
        rfl
      | succ i =>
        simp only [List.getElem?_cons_succ] at e
        have := m6 i p e
        rw [show hZ h + 1 + i = hZ h + (i + 1) by omega] at this
        exact this
/-- who refers to whom: owner, field, to whom, kind, length; as offsets from b -/
def ShL (G : GG) (h : HP) (b : Nat) (L : List (Nat × Nat × Nat × Nat × Nat)) : Prop := ∀ q ∈ L, b + q.1 < hZ h ∧ hR h (b + q.1) q.2.1 = some (b + q.2.2.1) ∧ Kd G h (b + q.2.2.1) q.2.2.2.1 ∧ hN h (b + q.2.2.1) = q.2.2.2.2
/-- cells may be made, references changed where P says -/
def Ext (P : Nat → Nat → Prop) (h h2 : HP) : Prop := KP h h2 ∧ ∀ b k, b < hZ h → hI h2 b k = hI h b k ∧ hL h2 b k = hL h b k ∧ (¬ P b k → hR h2 b k = hR h b k)
theorem Ext.tr {P : Nat → Nat → Prop} {h h1 h2 : HP} (p : Ext P h h1) (q : Ext P h1 h2) : Ext P h h2 := ⟨p.1.tr q.1, fun b k hb => by
  obtain ⟨a1, a2, a3⟩ := p.2 b k hb
  obtain ⟨b1, b2, b3⟩ := q.2 b k (Nat.lt_of_lt_of_le hb p.1.1)
  exact ⟨b1.trans a1, b2.trans a2, fun n => (b3 n).trans (a3 n)⟩⟩
theorem Ext.weak {P P' : Nat → Nat → Prop} {h h2 : HP} (p : Ext P h h2) (hp : ∀ b k, P b k → P' b k) : Ext P' h h2 := ⟨p.1, fun b k hb => ⟨(p.2 b k hb).1, (p.2 b k hb).2.1, fun n => (p.2 b k hb).2.2 (fun z => n (hp b k z))⟩⟩
theorem ShL.ext {P : Nat → Nat → Prop} {G : GG} {h h2 : HP} {b : Nat} {L : List (Nat × Nat × Nat × Nat × Nat)} (S : ShL G h b L) (e : Ext P h h2) (hp : ∀ q ∈ L, ¬ P (b + q.1) q.2.1) : ShL G h2 b L := fun q hq => by
  obtain ⟨a1, a2, a3, a4⟩ := S q hq
  exact ⟨Nat.lt_of_lt_of_le a1 e.1.1, ((e.2 _ _ a1).2.2 (hp q hq)).trans a2, a3.up e.1, (a3.len e.1).trans a4⟩
theorem ShL.app {G : GG} {h : HP} {b : Nat} {L L2 : List (Nat × Nat × Nat × Nat × Nat)} (S : ShL G h b L) (S2 : ShL G h b L2) : ShL G h b (L ++ L2) := fun q hq => by
  rcases List.mem_append.mp hq with hq | hq
  · exact S q hq
  · exact S2 q hq
def subL (o : Nat) : Nat → List (Nat × Nat × Nat) → List (Nat × Nat × Nat × Nat × Nat)
  | _, [] => []
  | j, q :: l => (o, q.1, o + j, q.2.1, q.2.2) :: subL o (j + 1) l
theorem subL_mem (o : Nat) : ∀ (l : List (Nat × Nat × Nat)) (j : Nat) q, q ∈ subL o j l → ∃ i p, l[i]? = some p ∧ q = (o, p.1, o + (j + i), p.2.1, p.2.2)
  | [], _, q, hq => by simp [subL] at hq
  | p :: l, j, q, hq => by
    simp only [subL, List.mem_cons] at hq
    rcases hq with hq | hq
    · exact ⟨0, p, rfl, hq⟩
    · obtain ⟨i, p', e1, e2⟩ := subL_mem o l (j + 1) q hq
      exact ⟨i + 1, p', e1, by rw [e2]; simp; omega⟩
/-- a new object with its rows, put into field f of the object at b -/
def PcF (G : GG) (b f o κ n : Nat) (l : List (Nat × Nat × Nat)) (h g : HP) : Prop := Ext (fun x k => x = b ∧ k = f) h g ∧ hZ g = b + o + 1 + l.length ∧ hU g = hU h + n + sumL l ∧ ShL G g b ((0, f, o, κ, n) :: subL o 1 l)
theorem pc_F {G : GG} {b f o κ n : Nat} {l : List (Nat × Nat × Nat)} {h h1 h2 : HP} (hz : hZ h = b + o) (ho : 0 < o) (hg : G.1 ≤ b) (kp0 : KP h h1) (z0 : hZ h1 = b + o + 1) (u0 : hU h1 = hU h + n) (k0 : hK h1 (b + o) = κ) (n0 : hN h1 (b + o) = n) (s0 : ∀ x k, x < b + o → hI h1 x k = hI h x k ∧ hL h1 x k = hL h x k ∧ hR h1 x k = hR h x k) (M : MkF G h1 h2 (b + o) l) : PcF G b f o κ n l h (sR h2 b f (some (b + o))) := by
  obtain ⟨m1, m2, m3, m4, m5, m6⟩ := M
  rw [z0] at m2 m4 m5 m6
  have kd : Kd G h1 (b + o) κ := ⟨k0, by omega, by omega⟩
  have kp2 : KP h2 (sR h2 b f (some (b + o))) := kp_sR _ _ _ _
  refine ⟨⟨(kp0.tr m1).tr kp2, fun x k hx => ?_⟩, m2, by rw [hU_sR, m3, u0], fun q hq => ?_⟩
  · obtain ⟨n1, n2, n3⟩ := m4 x k (by omega)
    refine ⟨by rw [hI_sR, n1, (s0 x k (by omega)).1], by rw [hL_sR, n2, (s0 x k (by omega)).2.1], fun nk => ?_⟩
    rw [hR_sR, if_neg nk, n3 (Or.inl (by omega)), (s0 x k (by omega)).2.2]
  · rcases List.mem_cons.mp hq with rfl | hq
    · refine ⟨by rw [hZ_sR]; simp; omega, by rw [hR_sR, if_pos ⟨by simp, rfl⟩], (kd.up m1).up kp2, ?_⟩
      rw [(kd.up m1).len kp2, kd.len m1, n0]
    · obtain ⟨i, p, e1, rfl⟩ := subL_mem o l 1 q hq
      obtain ⟨n1, n2, n3⟩ := m6 i p e1
      rw [show b + o + 1 + i = b + (o + (1 + i)) by omega] at n1 n2 n3
      refine ⟨by rw [hZ_sR, m2]; simp; omega, ?_, n1.up kp2, (n1.len kp2).trans n2⟩
      rw [hR_sR, if_neg (by simp; omega)]
      exact n3
theorem nw_same {h : HP} {κ n z : Nat} (hz : hZ h = z) (x k : Nat) (hx : x < z) : hI (nw h κ n) x k = hI h x k ∧ hL (nw h κ n) x k = hL h x k ∧ hR (nw h κ n) x k = hR h x k := ⟨by rw [hI_nw, if_neg (by omega)], by rw [hL_nw, if_neg (by omega)], by rw [hR_nw, if_neg (by omega)]⟩
/-- the common case: a new object, then its rows -/
theorem pc_N {G : GG} {b f o κ n : Nat} {l : List (Nat × Nat × Nat)} {h h2 : HP} (hz : hZ h = b + o) (ho : 0 < o) (hg : G.1 ≤ b) (M : MkF G (nw h κ n) h2 (b + o) l) : PcF G b f o κ n l h (sR h2 b f (some (b + o))) :=
  pc_F hz ho hg (KP.nw _ _ _) (by rw [hZ_nw, hz]) (by rw [hU_nw]) (by rw [hK_nw, if_pos hz.symm]) (by rw [hN_nw, if_pos hz.symm]) (nw_same hz) M
theorem nw_kd {G : GG} {h : HP} {κ n z : Nat} (hz : hZ h = z) (hg : G.1 ≤ z) : Kd G (nw h κ n) z κ := ⟨by rw [hK_nw, if_pos hz.symm], hg, by rw [hZ_nw, hz]; omega⟩
theorem mk_nil (G : GG) (a : Nat) (h : HP) : MkF G h h a [] := ⟨KP.rf h, rfl, rfl, fun _ _ _ => ⟨rfl, rfl, fun _ => rfl⟩, fun b k h1 h2 => absurd h2 (by simp; omega), fun i q e => by simp at e⟩
/-- what a new State holds -/
def StNew (h : HP) (s : Nat) : Prop := (hI h s 0 = 20 ∧ hI h s 1 = 20 ∧ hI h s 2 = 0 ∧ hI h s 3 = 0 ∧ hI h s 4 = 0) ∧ (∀ c, c < 1600 → hI h (s + 1) c = 1) ∧ (∀ j, hI h (s + 2) j = 0) ∧ (∀ j, j < 31 → ∀ k, tg h s j k = thBl k) ∧ (∀ j, j < 6 → ∀ k, hI h (s + 36 + j) k = 0)
theorem StPart.sh {G : GG} {h h2 : HP} {s : Nat} (P : StPart G h h2 s 31 6) : StSh G h2 s ∧ StNew h2 s := by
  obtain ⟨p1, p2, p3, p4, p5, p18, p19, p20, p21, p22, p23, p24⟩ := P
  exact ⟨⟨p5.1, p5.2.1, p5.2.2.1, p5.2.2.2.1, p5.2.2.2.2.1, p5.2.2.2.2.2, p18, p19⟩, p20, p21, p22, p23, p24⟩
theorem StSh.ext {P : Nat → Nat → Prop} {G : GG} {h h2 : HP} {s : Nat} (e : Ext P h h2) (hp : ∀ a k, s ≤ a → a < s + 42 → ¬ P a k) (S : StSh G h s) : StSh G h2 s := by
  obtain ⟨a1, ⟨b1, b2, b3, b4⟩, ⟨c1, c2⟩, ⟨d1, d2⟩, ⟨e1, e2⟩, ⟨g1, g2⟩, k1, k2⟩ := S
  have kp := e.1
  have er : ∀ a k κ, Kd G h a κ → s ≤ a → a < s + 42 → hR h2 a k = hR h a k := fun a k κ kk h1 h3 => (e.2 a k kk.2.2).2.2 (hp a k h1 h3)
  exact ⟨a1.up kp, ⟨(er _ _ _ a1 (by omega) (by omega)).trans b1, (er _ _ _ a1 (by omega) (by omega)).trans b2, (er _ _ _ a1 (by omega) (by omega)).trans b3, (er _ _ _ a1 (by omega) (by omega)).trans b4⟩, ⟨c1.up kp, (c1.len kp).trans c2⟩, ⟨d1.up kp, (d1.len kp).trans d2⟩, ⟨e1.up kp, (e1.len kp).trans e2⟩, ⟨g1.up kp, (g1.len kp).trans g2⟩, fun i hi => ⟨(er _ _ _ e1 (by omega) (by omega)).trans (k1 i hi).1, (k1 i hi).2.up kp⟩, fun i hi => ⟨(er _ _ _ g1 (by omega) (by omega)).trans (k2 i hi).1, (k2 i hi).2.up kp⟩⟩
theorem StNew.ext {P : Nat → Nat → Prop} {h h2 : HP} {s : Nat} (e : Ext P h h2) (hz : s + 42 ≤ hZ h) (S : StNew h s) : StNew h2 s := by
  obtain ⟨⟨a1, a2, a3, a4, a5⟩, b1, b2, b3, b4⟩ := S
  have ei : ∀ a k, a < s + 42 → hI h2 a k = hI h a k := fun a k ha => (e.2 a k (by omega)).1
  exact ⟨⟨(ei _ _ (by omega)).trans a1, (ei _ _ (by omega)).trans a2, (ei _ _ (by omega)).trans a3, (ei _ _ (by omega)).trans a4, (ei _ _ (by omega)).trans a5⟩, fun c hc => (ei _ _ (by omega)).trans (b1 c hc), fun j => (ei _ _ (by omega)).trans (b2 j), fun j hj k => (ei _ _ (by omega)).trans (b3 j hj k), fun j hj k => (ei _ _ (by omega)).trans (b4 j hj k)⟩
def clL : List (Nat × Nat × Nat × Nat × Nat) := [(0, 0, 1, 8, 11), (1, 5, 2, 13, 400), (1, 6, 3, 14, 401), (1, 7, 4, 14, 401), (1, 8, 5, 14, 401), (0, 1, 6, 2, 5), (0, 2, 7, 5, 9), (7, 0, 8, 14, 424), (7, 1, 9, 14, 12), (7, 2, 10, 14, 12), (7, 3, 11, 14, 12), (0, 3, 12, 18, 6), (0, 4, 13, 18, 6), (0, 5, 14, 19, 4), (0, 6, 15, 7, 5), (15, 0, 16, 14, 1681), (15, 1, 17, 14, 1681), (15, 2, 18, 14, 1681), (15, 3, 19, 14, 1681), (15, 4, 20, 14, 1681), (0, 7, 21, 10, 11), (21, 0, 22, 14, 1600), (21, 3, 23, 14, 1600), (21, 4, 24, 14, 1600), (21, 5, 25, 14, 1600), (21, 6, 26, 14, 1600), (21, 7, 27, 14, 160), (21, 8, 28, 14, 160), (0, 8, 29, 3, 18), (29, 17, 30, 15, 12), (0, 9, 31, 3, 18), (31, 17, 32, 15, 12), (0, 10, 33, 0, 7), (0, 11, 34, 0, 7)]
section CT2
variable {G : GG} {d : Nat} {h : HP} {Q : Option Value → HP → Prop} {a : Nat}
def tpL : List (Nat × Nat × Nat) := [(5, 13, 400), (6, 14, 401), (7, 14, 401), (8, 14, 401)]
def srL : List (Nat × Nat × Nat) := [(0, 14, 424), (1, 14, 12), (2, 14, 12), (3, 14, 12)]
def smL : List (Nat × Nat × Nat) := [(0, 14, 1681), (1, 14, 1681), (2, 14, 1681), (3, 14, 1681), (4, 14, 1681)]
def wyL : List (Nat × Nat × Nat) := [(0, 14, 1600), (3, 14, 1600), (4, 14, 1600), (5, 14, 1600), (6, 14, 1600), (7, 14, 160), (8, 14, 160)]
def moL : List (Nat × Nat × Nat) := [(0, 13, 400), (2, 14, 2), (3, 14, 4800), (4, 14, 13), (5, 14, 720), (6, 14, 12), (7, 14, 12), (11, 14, 1600), (12, 14, 24), (20, 14, 400), (26, 15, 64), (28, 15, 12), (29, 14, 2440), (30, 14, 2440), (43, 14, 1600), (44, 14, 1600), (45, 14, 1600), (46, 16, 1600), (49, 14, 9760), (50, 16, 4)]
theorem s_Tape_init (hd : 1 ≤ d) (k : Kd G h a 8) (hQ : ∀ h2, MkF G h h2 a tpL → Q none h2) : Cal G d mX8_init [.ref a] h Q := by
  refine e_X8_init hd ?_
  intro q1 h2 e1 e2
  refine ⟨by subst e2; exact k.up (KP.nw _ _ _), ?_⟩
  intro q7 h8 e3 e4 q12 h13 e5 e6 q17 h18 e7 e8
  subst e1 e2 e3 e4 e5 e6 e7 e8
  exact hQ _ (mk_F G a tpL h (by have := k.2; omega) k.2.2 (by decide))
theorem s_SR_init (hd : 1 ≤ d) (k : Kd G h a 5) (hQ : ∀ h2, MkF G h h2 a srL → Q none h2) : Cal G d mX5_init [.ref a] h Q := by
  refine e_X5_init hd ?_
  intro q1 h2 e1 e2
  refine ⟨by subst e2; exact k.up (KP.nw _ _ _), ?_⟩
  intro q7 h8 e3 e4 q12 h13 e5 e6 q17 h18 e7 e8
  subst e1 e2 e3 e4 e5 e6 e7 e8
  exact hQ _ (mk_F G a srL h (by have := k.2; omega) k.2.2 (by decide))
theorem s_Sums_init (hd : 1 ≤ d) (k : Kd G h a 7) (hQ : ∀ h2, MkF G h h2 a smL → Q none h2) : Cal G d mX7_init [.ref a] h Q := by
  refine e_X7_init hd ?_
  intro q1 h2 e1 e2
  refine ⟨by subst e2; exact k.up (KP.nw _ _ _), ?_⟩
  intro q7 h8 e3 e4 q12 h13 e5 e6 q17 h18 e7 e8 q22 h23 e9 e10
  subst e1 e2 e3 e4 e5 e6 e7 e8 e9 e10
  exact hQ _ (mk_F G a smL h (by have := k.2; omega) k.2.2 (by decide))
theorem s_Ways_init (hd : 1 ≤ d) (k : Kd G h a 10) (hQ : ∀ h2, MkF G h h2 a wyL → Q none h2) : Cal G d mX10_init [.ref a] h Q := by
  refine e_X10_init hd ?_
  intro q1 h2 e1 e2
  refine ⟨by subst e2; exact k.up (KP.nw _ _ _), ?_⟩
  intro q7 h8 e3 e4 q12 h13 e5 e6 q17 h18 e7 e8 q22 h23 e9 e10 q27 h28 e11 e12 q32 h33 e13 e14
  subst e1 e2 e3 e4 e5 e6 e7 e8 e9 e10 e11 e12 e13 e14
  exact hQ _ (mk_F G a wyL h (by have := k.2; omega) k.2.2 (by decide))
theorem s_Plan_init (hd : 1 ≤ d) (k : Kd G h a 3) (hQ : ∀ h2, MkF G (sI h a 6 (-1)) h2 a [(17, 15, 12)] → Q none h2) : Cal G d mX3_init [.ref a] h Q := by
  refine e_X3_init hd ⟨k, ?_⟩
  intro q1 h2 e1 e2
  subst e1 e2
  exact hQ _ (mk_F G a [(17, 15, 12)] (sI h a 6 (-1)) (by have := k.2; rw [hZ_sI]; omega) k.2.2 (by decide))
set_option maxHeartbeats 4000000 in
theorem s_X11_init {b : Nat} (hd : 4 ≤ d) (k : Kd G h b 11) (hz : hZ h = b + 1) (i0 : ∀ k, hI h b k = 0)
    (hQ : ∀ h2, KP h h2 → hZ h2 = b + 119 → hU h2 ≤ hU h + 24000 → ShL G h2 b clL → (∀ k, hI h2 b k = 0) → hI h2 (b + 1) 0 = 0 → (∀ k, hR h2 (b + 14) k = none) → hR h2 b 12 = some (b + 35) → hR h2 b 13 = some (b + 77) → StSh G h2 (b + 35) → StSh G h2 (b + 77) → StNew h2 (b + 35) → (∀ a k, b + 16 ≤ a → a ≤ b + 20 → hI h2 a k = 0) → Q none h2) : Cal G d mX11_init [.ref b] h Q := by
  have hg := k.2.1
  refine e_X11_init (by omega) ?_
  intro q1 h2 e1 e2
  rw [hz] at e1
  subst e1 e2
  refine s_Tape_init (by omega) (nw_kd hz (by omega)) fun h7 M7 => ⟨rfl, (k.up (KP.nw _ _ _)).up M7.1, ?_⟩
  have t0 : hI (sR h7 b 0 (some (b + 1))) (b + 1) 0 = 0 := by
    rw [hI_sR, (M7.2.2.2.1 (b + 1) 0 (by rw [hZ_nw]; omega)).1, hI_nw, if_pos hz.symm]
  obtain ⟨x1, z1, u1, s1⟩ := pc_N (f := 0) (o := 1) hz (by omega) hg M7
  generalize sR h7 b 0 (some (b + 1)) = g1 at *
  intro q10 h11 e1 e2
  replace z1 : hZ g1 = b + 6 := z1
  rw [z1] at e1
  subst e1 e2
  refine e_X2_init (by omega) ⟨rfl, ?_⟩
  obtain ⟨x2, z2, u2, s2⟩ := pc_N (f := 1) (o := 6) z1 (by omega) hg (mk_nil G _ (nw g1 2 5))
  generalize sR (nw g1 2 5) b 1 (some (b + 6)) = g2 at *
  replace z2 : hZ g2 = b + 7 := z2
  intro q18 h19 e1 e2
  rw [z2] at e1
  subst e1 e2
  refine s_SR_init (by omega) (nw_kd z2 (by omega)) fun h24 M24 => ⟨rfl, ?_⟩
  obtain ⟨x3, z3, u3, s3⟩ := pc_N (f := 2) (o := 7) z2 (by omega) hg M24
  generalize sR h24 b 2 (some (b + 7)) = g3 at *
  replace z3 : hZ g3 = b + 12 := z3
  intro q26 h27 e1 e2
  rw [z3] at e1
  subst e1 e2
  obtain ⟨x4, z4, u4, s4⟩ := pc_N (f := 3) (o := 12) (κ := 18) (n := 6) z3 (by omega) hg (mk_nil G _ _)
  generalize hg4 : sR (nw g3 18 6) b 3 (some (b + 12)) = g4 at *
  replace z4 : hZ g4 = b + 13 := z4
  intro q31 h32 e1 e2
  replace e1 : q31 = hZ (sR (nw g3 18 6) b 3 (some (b + 12))) := e1
  replace e2 : h32 = nw (sR (nw g3 18 6) b 3 (some (b + 12))) 18 6 := e2
  rw [hg4] at e1 e2
  rw [z4] at e1
  subst e1 e2
  obtain ⟨x5, z5, u5, s5⟩ := pc_N (f := 4) (o := 13) (κ := 18) (n := 6) z4 (by omega) hg (mk_nil G _ _)
  generalize hg5 : sR (nw g4 18 6) b 4 (some (b + 13)) = g5 at *
  replace z5 : hZ g5 = b + 14 := z5
  intro q36 h37 e1 e2
  replace e2 : h37 = nw g5 19 4 := e2
  rw [z5] at e1
  subst e1 e2
  obtain ⟨x6, z6, u6, s6⟩ := pc_N (f := 5) (o := 14) (κ := 19) (n := 4) z5 (by omega) hg (mk_nil G _ _)
  have r6 : ∀ k, hR (sR (nw g5 19 4) b 5 (some (b + 14))) (b + 14) k = none := fun k => by rw [hR_sR, if_neg (by omega), hR_nw, if_pos z5.symm]
  generalize hg6 : sR (nw g5 19 4) b 5 (some (b + 14)) = g6 at *
  replace z6 : hZ g6 = b + 15 := z6
  intro q41 h42 e1 e2
  rw [z6] at e1
  subst e1 e2
  refine s_Sums_init (by omega) (nw_kd z6 (by omega)) fun h47 M47 => ⟨rfl, ?_⟩
  obtain ⟨x7, z7, u7, s7⟩ := pc_N (f := 6) (o := 15) z6 (by omega) hg M47
  have w7 : ∀ a k, b + 16 ≤ a → a ≤ b + 20 → hI (sR h47 b 6 (some (b + 15))) a k = 0 := fun a k h1 h2 => by
    rw [hI_sR]
    exact (M47.2.2.2.2.1 a k (by rw [hZ_nw, z6]; exact h1) (by rw [hZ_nw, z6]; exact Nat.lt_succ_of_le h2)).1
  generalize sR h47 b 6 (some (b + 15)) = g7 at *
  replace z7 : hZ g7 = b + 21 := z7
  intro q49 h50 e1 e2
  rw [z7] at e1
  subst e1 e2
  refine s_Ways_init (by omega) (nw_kd z7 (by omega)) fun h55 M55 => ⟨rfl, ?_⟩
  obtain ⟨x8, z8, u8, s8⟩ := pc_N (f := 7) (o := 21) z7 (by omega) hg M55
  generalize sR h55 b 7 (some (b + 21)) = g8 at *
  replace z8 : hZ g8 = b + 29 := z8
  have plan : ∀ (f o : Nat) (g h2 : HP), hZ g = b + o → 0 < o → MkF G (sI (nw g 3 18) (b + o) 6 (-1)) h2 (b + o) [(17, 15, 12)] → PcF G b f o 3 18 [(17, 15, 12)] g (sR h2 b f (some (b + o))) := by
    intro f o g h2 hz ho M
    refine pc_F hz ho hg ((KP.nw _ _ _).tr (kp_sI _ _ _ _)) (by rw [hZ_sI, hZ_nw, hz]) (by rw [hU_sI, hU_nw]) (by rw [hK_sI, hK_nw, if_pos hz.symm]) (by rw [hN_sI, hN_nw, if_pos hz.symm]) (fun x k hx => ?_) M
    obtain ⟨a1, a2, a3⟩ := nw_same (κ := 3) (n := 18) hz x k hx
    exact ⟨by rw [hI_sI, if_neg (by omega), a1], by rw [hL_sI, a2], by rw [hR_sI, a3]⟩
  intro q57 h58 e1 e2
  rw [z8] at e1
  subst e1 e2
  refine s_Plan_init (by omega) (nw_kd z8 (by omega)) fun h63 M63 => ⟨rfl, ?_⟩
  obtain ⟨x9, z9, u9, s9⟩ := plan 8 29 g8 h63 z8 (by omega) M63
  generalize sR h63 b 8 (some (b + 29)) = g9 at *
  replace z9 : hZ g9 = b + 31 := z9
  intro q65 h66 e1 e2
  rw [z9] at e1
  subst e1 e2
  refine s_Plan_init (by omega) (nw_kd z9 (by omega)) fun h71 M71 => ⟨rfl, ?_⟩
  obtain ⟨x10, z10, u10, s10⟩ := plan 9 31 g9 h71 z9 (by omega) M71
  generalize sR h71 b 9 (some (b + 31)) = g10 at *
  replace z10 : hZ g10 = b + 33 := z10
  intro q73 h74 e1 e2
  rw [z10] at e1
  subst e1 e2
  refine e_X0_init (by omega) ⟨rfl, ?_⟩
  obtain ⟨x11, z11, u11, s11⟩ := pc_N (f := 10) (o := 33) z10 (by omega) hg (mk_nil G _ (nw g10 0 7))
  generalize sR (nw g10 0 7) b 10 (some (b + 33)) = g11 at *
  replace z11 : hZ g11 = b + 34 := z11
  intro q81 h82 e1 e2
  rw [z11] at e1
  subst e1 e2
  refine e_X0_init (by omega) ⟨rfl, ?_⟩
  obtain ⟨x12, z12, u12, s12⟩ := pc_N (f := 11) (o := 34) z11 (by omega) hg (mk_nil G _ (nw g11 0 7))
  generalize sR (nw g11 0 7) b 11 (some (b + 34)) = g12 at *
  replace z12 : hZ g12 = b + 35 := z12
  have stp : ∀ (f s : Nat) (g h2 : HP), hZ g = s → b < s → StPart G (nw g 6 9) h2 s 31 6 → Ext (fun x k => x = b ∧ k = f) g (sR h2 b f (some s)) ∧ hZ (sR h2 b f (some s)) = s + 42 ∧ hU (sR h2 b f (some s)) = hU g + 9 + 1781 + 12 * 31 + 36 ∧ hR (sR h2 b f (some s)) b f = some s ∧ StSh G (sR h2 b f (some s)) s ∧ StNew (sR h2 b f (some s)) s := by
    intro f s g h2 hz hs P
    have e1 : Ext (fun x k => x = b ∧ k = f) h2 (sR h2 b f (some s)) := ⟨kp_sR _ _ _ _, fun x k _ => ⟨rfl, rfl, fun n => by rw [hR_sR, if_neg n]⟩⟩
    have z2 : hZ h2 = s + 42 := by rw [P.2.1]
    refine ⟨⟨((KP.nw _ _ _).tr P.1).tr (kp_sR _ _ _ _), fun x k hx => ?_⟩, z2, by rw [hU_sR, P.2.2.1, hU_nw], by rw [hR_sR, if_pos ⟨rfl, rfl⟩], P.sh.1.ext e1 (fun a k h1 _ => by omega), P.sh.2.ext e1 (by omega)⟩
    obtain ⟨a1, a2, a3⟩ := P.2.2.2.1 x (by omega) k
    obtain ⟨b1, b2, b3⟩ := nw_same (κ := 6) (n := 9) hz x k (by omega)
    exact ⟨by rw [hI_sR, a1, b1], by rw [hL_sR, a2, b2], fun n => by rw [hR_sR, if_neg n, a3, b3]⟩
  intro q89 h90 e1 e2
  rw [z12] at e1
  subst e1 e2
  refine s_State_init (by omega) (nw_kd z12 (by omega)) (by rw [hZ_nw, z12]) (fun k => by rw [hI_nw, if_pos z12.symm]) fun h95 P95 => ⟨rfl, ?_⟩
  obtain ⟨x13, z13, u13, r13, S13, N13⟩ := stp 12 (b + 35) g12 h95 z12 (by omega) P95
  generalize sR h95 b 12 (some (b + 35)) = g13 at *
  intro q97 h98 e1 e2
  rw [z13] at e1
  subst e1 e2
  refine s_State_init (by omega) (nw_kd z13 (by omega)) (by rw [hZ_nw, z13]) (fun k => by rw [hI_nw, if_pos z13.symm]) fun h103 P103 => ⟨rfl, ?_⟩
  obtain ⟨x14, z14, u14, r14, S14, N14⟩ := stp 13 (b + 35 + 42) g13 h103 z13 (by omega) P103
  generalize sR h103 b 13 (some (b + 35 + 42)) = g14 at *
  have F : ∀ {f : Nat} {g g' : HP} {L L2 : List (Nat × Nat × Nat × Nat × Nat)}, ShL G g b L → Ext (fun x k => x = b ∧ k = f) g g' → (∀ q ∈ L, ¬ (q.1 = 0 ∧ q.2.1 = f)) → ShL G g' b L2 → ShL G g' b (L ++ L2) := fun S e n S2 => (S.ext e (fun q hq z => n q hq ⟨by omega, z.2⟩)).app S2
  have A2 := F s1 x2 (by decide) s2
  have A3 := F A2 x3 (by decide) s3
  have A4 := F A3 x4 (by decide) s4
  have A5 := F A4 x5 (by decide) s5
  have A6 := F A5 x6 (by decide) s6
  have A7 := F A6 x7 (by decide) s7
  have A8 := F A7 x8 (by decide) s8
  have A9 := F A8 x9 (by decide) s9
  have A10 := F A9 x10 (by decide) s10
  have A11 := F A10 x11 (by decide) s11
  have A12 := F A11 x12 (by decide) s12
  have B12 : ShL G g12 b clL := A12
  have B13 : ShL G g13 b clL := B12.ext x13 (fun q hq z => (show ∀ q ∈ clL, ¬ (q.1 = 0 ∧ q.2.1 = 12) by decide) q hq ⟨by omega, z.2⟩)
  have B14 : ShL G g14 b clL := B13.ext x14 (fun q hq z => (show ∀ q ∈ clL, ¬ (q.1 = 0 ∧ q.2.1 = 13) by decide) q hq ⟨by omega, z.2⟩)
  have w : ∀ {f : Nat} {g g' : HP}, Ext (fun x k => x = b ∧ k = f) g g' → Ext (fun x _ => x = b) g g' := fun e => e.weak (fun _ _ q => q.1)
  have E8 : Ext (fun x _ => x = b) g7 g14 := (w x8).tr ((w x9).tr ((w x10).tr ((w x11).tr ((w x12).tr ((w x13).tr (w x14))))))
  have E7 : Ext (fun x _ => x = b) g6 g14 := (w x7).tr ((w x8).tr ((w x9).tr ((w x10).tr ((w x11).tr ((w x12).tr ((w x13).tr (w x14)))))))
  have E2 : Ext (fun x _ => x = b) g1 g14 := (w x2).tr ((w x3).tr ((w x4).tr ((w x5).tr ((w x6).tr E7))))
  have E1 : Ext (fun x _ => x = b) h g14 := (w x1).tr E2
  have q1 : sumL tpL = 1603 := rfl
  have q2 : sumL srL = 460 := rfl
  have q3 : sumL smL = 8405 := rfl
  have q4 : sumL wyL = 8320 := rfl
  have q5 : sumL [(17, 15, 12)] = 12 := rfl
  have q6 : sumL [] = 0 := rfl
  refine hQ g14 E1.1 z14 (by omega) B14 (fun k => ((E1.2 b k (by omega)).1).trans (i0 k)) ((E2.2 (b + 1) 0 (by omega)).1.trans t0) (fun k => ((E7.2 (b + 14) k (by omega)).2.2 (by omega)).trans (r6 k)) (((x14.2 b 12 (by omega)).2.2 (by omega)).trans r13) r14 (S13.ext x14 (fun a k h1 _ => by omega)) S14 (N13.ext x14 (by omega)) (fun a k h1 h2 => ((E8.2 a k (by rw [z7]; exact Nat.lt_succ_of_le h2)).1).trans (w7 a k h1 h2))
end CT2
