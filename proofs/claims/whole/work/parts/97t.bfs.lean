/-! ===== walking out from a cell ===== -/
def nbC (c s : Nat) : Nat := if s = 0 then c - 40 else if s = 1 then c + 1 else if s = 2 then c + 40 else c - 1
/-- labels, the row of cells in the order of their finding, how many -/
abbrev BS : Type := (Nat → Int) × (Nat → Nat) × Nat
def badd (c s : Nat) (b : BS) : BS := (fun e => if e = nbC c s then b.1 c + 1 else b.1 e, fun i => if i = b.2.2 then nbC c s else b.2.1 i, b.2.2 + 1)
noncomputable def bst (E : Nat → Nat → Prop) (c s : Nat) (b : BS) : BS := @ite _ (E c s ∧ b.1 (nbC c s) = -1) (Classical.propDecidable _) (badd c s b) b
theorem bst_yes {E : Nat → Nat → Prop} {c s : Nat} {b : BS} (h : E c s) (h2 : b.1 (nbC c s) = -1) : bst E c s b = badd c s b := by
  unfold bst
  exact @if_pos _ (Classical.propDecidable _) ⟨h, h2⟩ _ _ _
theorem bst_no {E : Nat → Nat → Prop} {c s : Nat} {b : BS} (h : ¬ (E c s ∧ b.1 (nbC c s) = -1)) : bst E c s b = b := by
  unfold bst
  exact @if_neg _ (Classical.propDecidable _) h _ _ _
noncomputable def bfN (E : Nat → Nat → Prop) (o : Nat) : Nat → BS
  | 0 => (fun c => if c = o then 0 else -1, fun _ => o, 1)
  | n + 1 => if n < (bfN E o n).2.2 then foldF (bst E ((bfN E o n).2.1 n)) (bfN E o n) 0 4 else bfN E o n
theorem bfN_S {E : Nat → Nat → Prop} {o n : Nat} (h : n < (bfN E o n).2.2) : bfN E o (n + 1) = foldF (bst E ((bfN E o n).2.1 n)) (bfN E o n) 0 4 := by
  rw [bfN, if_pos h]
theorem bfN_stop {E : Nat → Nat → Prop} {o n : Nat} (h : (bfN E o n).2.2 ≤ n) : ∀ m, bfN E o (n + m) = bfN E o n
  | 0 => rfl
  | m + 1 => by
    have e := bfN_stop h m
    rw [show n + (m + 1) = n + m + 1 by omega, bfN, e, if_neg (by omega)]
def labB (b : BS) (c : Nat) : Bool := b.1 c != -1
/-- edges stay among the cells -/
def GEd (E : Nat → Nat → Prop) : Prop := ∀ c s, s < 4 → E c s → c < 1600 ∧ nbC c s < 1600
def BI0 (E : Nat → Nat → Prop) (o n : Nat) (b : BS) : Prop :=
  (n ≤ b.2.2 ∧ cntF (labB b) 0 1600 = b.2.2) ∧ (∀ i, i < b.2.2 → b.2.1 i < 1600 ∧ 0 ≤ b.1 (b.2.1 i) ∧ b.1 (b.2.1 i) ≤ i) ∧ (∀ c, b.1 c = -1 ∨ ∃ i, i < b.2.2 ∧ b.2.1 i = c) ∧
  (∀ i j, i ≤ j → j < b.2.2 → b.1 (b.2.1 i) ≤ b.1 (b.2.1 j)) ∧ (∀ j, j < b.2.2 → n < b.2.2 → b.1 (b.2.1 j) ≤ b.1 (b.2.1 n) + 1) ∧
  (∀ i s, i < n → s < 4 → E (b.2.1 i) s → b.1 (nbC (b.2.1 i) s) ≠ -1 ∧ b.1 (nbC (b.2.1 i) s) ≤ b.1 (b.2.1 i) + 1) ∧ b.1 o = 0 ∧
  ∀ c, b.1 c ≠ -1 → c ≠ o → ∃ p s, s < 4 ∧ E p s ∧ nbC p s = c ∧ b.1 p ≠ -1 ∧ b.1 c = b.1 p + 1
def BJ0 (E : Nat → Nat → Prop) (o n k : Nat) (b : BS) : Prop := BI0 E o n b ∧ n < b.2.2 ∧ ∀ s, s < k → E (b.2.1 n) s → b.1 (nbC (b.2.1 n) s) ≠ -1 ∧ b.1 (nbC (b.2.1 n) s) ≤ b.1 (b.2.1 n) + 1
section BF
variable {E : Nat → Nat → Prop} {o n k : Nat} {b : BS}
theorem BI0.le (I : BI0 E o n b) : b.2.2 ≤ 1600 := by
  have := cntF_le (labB b) 1600 0
  rw [I.1.2] at this
  exact this
/-- while a cell has no label, there is room -/
theorem BI0.room (I : BI0 E o n b) {c : Nat} (hc : c < 1600) (h : b.1 c = -1) : b.2.2 < 1600 := by
  have l := cntF_rm (p := fun j => if j = c then true else labB b j) (q := labB b) (w := c) 1600 0 (by omega) (by omega) (fun j hj => by rw [if_neg hj]) (by simp [labB, h])
  have := cntF_le (fun j => if j = c then true else labB b j) 1600 0
  rw [I.1.2, if_pos (by rw [if_pos rfl])] at l
  omega
theorem BI0.start (I : BI0 E o n b) (h : n < b.2.2) : BJ0 E o n 0 b := ⟨I, h, fun s hs => by omega⟩
theorem BJ0.next (J : BJ0 E o n 4 b) : BI0 E o (n + 1) b := by
  obtain ⟨⟨⟨a1, a1'⟩, a2, a3, a4, a5, a6, a7⟩, h, j⟩ := J
  refine ⟨⟨by omega, a1'⟩, a2, a3, a4, fun i hi hn => ?_, fun i s hi hs => ?_, a7⟩
  · have e1 := a5 i hi h
    have e2 := a4 n (n + 1) (by omega) hn
    omega
  · by_cases c : i = n
    · subst c
      exact j s hs
    · exact a6 i s (by omega) hs
theorem BJ0.step (g : GEd E) (J : BJ0 E o n k b) (hk : k < 4) : BJ0 E o n (k + 1) (bst E (b.2.1 n) k b) ∧ (bst E (b.2.1 n) k b).2.1 n = b.2.1 n ∧ ∀ c, b.1 c ≠ -1 → (bst E (b.2.1 n) k b).1 c = b.1 c := by
  by_cases hc : E (b.2.1 n) k ∧ b.1 (nbC (b.2.1 n) k) = -1
  · rw [bst_yes hc.1 hc.2]
    obtain ⟨I, h, j⟩ := J
    have rm := I.room (g _ _ hk hc.1).2 hc.2
    have d16 := (g _ _ hk hc.1).2
    obtain ⟨⟨a1, a1'⟩, a2, a3, a4, a5, a6, a7, a8⟩ := I
    generalize hd : nbC (b.2.1 n) k = d at *
    have nd : ∀ c, b.1 c ≠ -1 → c ≠ d := fun c q e => q (by rw [e]; exact hc.2)
    have qd : ∀ i, i < b.2.2 → b.2.1 i ≠ d := fun i hi e => by
      have := (a2 i hi).2.1
      rw [e, hc.2] at this
      omega
    have L : ∀ e, (badd (b.2.1 n) k b).1 e = if e = d then b.1 (b.2.1 n) + 1 else b.1 e := fun e => by
      unfold badd
      rw [hd]
    have Qe : ∀ i, (badd (b.2.1 n) k b).2.1 i = if i = b.2.2 then d else b.2.1 i := fun i => by
      unfold badd
      rw [hd]
    have le : (badd (b.2.1 n) k b).2.2 = b.2.2 + 1 := rfl
    have Q1 : ∀ i, i < b.2.2 → (badd (b.2.1 n) k b).2.1 i = b.2.1 i := fun i hi => by rw [Qe, if_neg (by omega)]
    have L1 : ∀ c, b.1 c ≠ -1 → (badd (b.2.1 n) k b).1 c = b.1 c := fun c q => by rw [L, if_neg (nd c q)]
    have LQ : ∀ i, i < b.2.2 → (badd (b.2.1 n) k b).1 ((badd (b.2.1 n) k b).2.1 i) = b.1 (b.2.1 i) := fun i hi => by rw [Q1 i hi, L, if_neg (qd i hi)]
    have LL : (badd (b.2.1 n) k b).1 ((badd (b.2.1 n) k b).2.1 b.2.2) = b.1 (b.2.1 n) + 1 := by rw [Qe, if_pos rfl, L, if_pos rfl]
    have n0 := (a2 n h).2
    refine ⟨⟨⟨⟨by rw [le]; omega, ?_⟩, fun i hi => ?_, fun c => ?_, fun i i' hi hi' => ?_, fun i hi _ => ?_, fun i s hi hs es => ?_, ?_, fun c q co => ?_⟩, by rw [le]; omega, fun s hs es => ?_⟩, Q1 n h, L1⟩
    · have l := cntF_rm (p := labB (badd (b.2.1 n) k b)) (q := labB b) (w := d) 1600 0 (by omega) (by omega) (fun j hj => by
        unfold labB
        rw [L, if_neg hj]) (by simp [labB, hc.2])
      rw [l, a1', if_pos, le]
      unfold labB
      rw [L, if_pos rfl, bne_iff_ne]
      omega
    · rw [le] at hi
      by_cases c : i = b.2.2
      · rw [c, LL, Qe, if_pos rfl]
        refine ⟨d16, by omega, by omega⟩
      · rw [LQ i (by omega), Q1 i (by omega)]
        exact a2 i (by omega)
    · by_cases e : c = d
      · exact Or.inr ⟨b.2.2, by rw [le]; omega, by rw [Qe, if_pos rfl, e]⟩
      · rcases a3 c with q | ⟨i, hi, q⟩
        · left
          rw [L, if_neg e]
          exact q
        · exact Or.inr ⟨i, by rw [le]; omega, by rw [Q1 i hi]; exact q⟩
    · rw [le] at hi'
      by_cases c' : i' = b.2.2
      · rw [c', LL]
        by_cases c : i = b.2.2
        · rw [c, LL]
          omega
        · rw [LQ i (by omega)]
          exact a5 i (by omega) h
      · rw [LQ i' (by omega), LQ i (by omega)]
        exact a4 i i' hi (by omega)
    · rw [le] at hi
      rw [LQ n h]
      by_cases c : i = b.2.2
      · rw [c, LL]
        omega
      · rw [LQ i (by omega)]
        exact a5 i (by omega) h
    · rw [Q1 i (by omega)] at es
      rw [LQ i (by omega), Q1 i (by omega)]
      obtain ⟨e1, e2⟩ := a6 i s hi hs es
      rw [L1 _ e1]
      exact ⟨e1, e2⟩
    · rw [L1 o (by rw [a7]; omega)]
      exact a7
    · by_cases e : c = d
      · refine ⟨b.2.1 n, k, hk, hc.1, by rw [hd, e], ?_, ?_⟩
        · rw [L1 _ (by omega)]
          omega
        · rw [L, if_pos e, L1 _ (by omega)]
      · rw [L, if_neg e] at q
        obtain ⟨p, s, p1, p2, p3, p4, p5⟩ := a8 c q co
        exact ⟨p, s, p1, p2, p3, by rw [L1 p p4]; exact p4, by rw [L1 p p4, L1 c q]; exact p5⟩
    · rw [Q1 n h] at es
      rw [LQ n h, Q1 n h]
      by_cases c : s = k
      · subst c
        rw [hd, L, if_pos rfl]
        omega
      · obtain ⟨e1, e2⟩ := j s (by omega) es
        rw [L1 _ e1]
        exact ⟨e1, e2⟩
  · rw [bst_no hc]
    obtain ⟨I, h, j⟩ := J
    refine ⟨⟨I, h, fun s hs es => ?_⟩, rfl, fun _ _ => rfl⟩
    by_cases c : s = k
    · subst c
      have e1 : b.1 (nbC (b.2.1 n) s) ≠ -1 := fun q => hc ⟨es, q⟩
      refine ⟨e1, ?_⟩
      rcases I.2.2.1 (nbC (b.2.1 n) s) with q | ⟨i, hi, q⟩
      · exact absurd q e1
      · rw [← q]
        exact I.2.2.2.2.1 i hi h
    · exact j s (by omega) es
theorem bi_ini (ho : o < 1600) : BI0 E o 0 (bfN E o 0) := by
  have L : ∀ c, (bfN E o 0).1 c = if c = o then 0 else -1 := fun c => rfl
  have Qe : ∀ i, (bfN E o 0).2.1 i = o := fun i => rfl
  have le : (bfN E o 0).2.2 = 1 := rfl
  have L0 : (bfN E o 0).1 o = 0 := by rw [L, if_pos rfl]
  refine ⟨⟨by omega, ?_⟩, fun i hi => ?_, fun c => ?_, fun i j _ _ => ?_, fun j _ _ => ?_, fun i s hi => by omega, L0, fun c q co => ?_⟩
  · have l := cntF_rm (p := labB (bfN E o 0)) (q := fun _ => false) (w := o) 1600 0 (by omega) (by omega) (fun j hj => by
      unfold labB
      rw [L, if_neg hj]
      rfl) rfl
    rw [l, cntF_none 1600 0 (fun _ _ _ => rfl), le, if_pos]
    unfold labB
    rw [L0]
    decide
  · rw [Qe, L0]
    omega
  · by_cases e : c = o
    · exact Or.inr ⟨0, by rw [le]; omega, by rw [Qe, e]⟩
    · left
      rw [L, if_neg e]
  · rw [Qe, Qe]
    omega
  · rw [Qe, Qe]
    omega
  · rw [L, if_neg co] at q
    exact absurd rfl q
theorem bi_next (g : GEd E) (I : BI0 E o n (bfN E o n)) (h : n < (bfN E o n).2.2) : BI0 E o (n + 1) (bfN E o (n + 1)) ∧ ∀ c, (bfN E o n).1 c ≠ -1 → (bfN E o (n + 1)).1 c = (bfN E o n).1 c := by
  rw [bfN_S h]
  have key := foldF_inv (f := bst E ((bfN E o n).2.1 n)) (J := fun k b => BJ0 E o n k b ∧ b.2.1 n = (bfN E o n).2.1 n ∧ ∀ c, (bfN E o n).1 c ≠ -1 → b.1 c = (bfN E o n).1 c) 4 0 (bfN E o n) (fun k b _ hk hJ => by
    obtain ⟨J, e, m⟩ := hJ
    have := J.step g (by omega)
    rw [e] at this
    exact ⟨this.1, this.2.1, fun c q => (this.2.2 c (by rw [m c q]; exact q)).trans (m c q)⟩) ⟨I.start h, rfl, fun _ _ => rfl⟩
  exact ⟨key.1.next, key.2.2⟩
/-- labels stay -/
theorem bf_mono (g : GEd E) (I : BI0 E o n (bfN E o n)) : ∀ m c, (bfN E o n).1 c ≠ -1 → (bfN E o (n + m)).1 c = (bfN E o n).1 c := by
  suffices H : ∀ m, ((∃ m', m' ≤ m ∧ bfN E o (n + m) = bfN E o (n + m') ∧ (bfN E o (n + m')).2.2 ≤ n + m') ∨ BI0 E o (n + m) (bfN E o (n + m))) ∧ ∀ c, (bfN E o n).1 c ≠ -1 → (bfN E o (n + m)).1 c = (bfN E o n).1 c from fun m => (H m).2
  intro m
  induction m with
  | zero => exact ⟨Or.inr I, fun _ _ => rfl⟩
  | succ m ih =>
    obtain ⟨i1, i2⟩ := ih
    by_cases h : n + m < (bfN E o (n + m)).2.2
    · rcases i1 with ⟨m', h1, h2, h3⟩ | i1
      · rw [h2] at h
        omega
      · have := bi_next g i1 h
        exact ⟨Or.inr this.1, fun c q => (this.2 c (by rw [i2 c q]; exact q)).trans (i2 c q)⟩
    · have e := bfN_stop (E := E) (o := o) (n := n + m) (by omega) 1
      refine ⟨Or.inl ⟨m, by omega, e, by omega⟩, fun c q => ?_⟩
      rw [show n + (m + 1) = n + m + 1 by omega, e]
      exact i2 c q
/-- what is found in the end -/
noncomputable def nF : Nat := Classical.choose (⟨1600, rfl⟩ : ∃ n : Nat, n = 1600)
theorem nF_eq : nF = 1600 := Classical.choose_spec (⟨1600, rfl⟩ : ∃ n : Nat, n = 1600)
noncomputable def dst (E : Nat → Nat → Prop) (o c : Nat) : Int := (bfN E o nF).1 c
theorem bf_fin (g : GEd E) (ho : o < 1600) : ∃ n, BI0 E o n (bfN E o nF) ∧ (bfN E o nF).2.2 = n := by
  have H : ∀ n, BI0 E o n (bfN E o n) ∨ ∃ m, BI0 E o m (bfN E o n) ∧ (bfN E o n).2.2 = m ∧ m ≤ n := by
    intro n
    induction n with
    | zero => exact Or.inl (bi_ini ho)
    | succ n ih =>
      by_cases h : n < (bfN E o n).2.2
      · rcases ih with i | ⟨m, i1, i2, i3⟩
        · exact Or.inl (bi_next g i h).1
        · omega
      · have e := bfN_stop (E := E) (o := o) (n := n) (by omega) 1
        rw [e]
        rcases ih with i | ⟨m, i1, i2, i3⟩
        · exact Or.inr ⟨n, i, by have := i.1.1; omega, by omega⟩
        · exact Or.inr ⟨m, i1, i2, by omega⟩
  rcases H nF with i | ⟨m, i1, i2, -⟩
  · exact ⟨nF, i, by have := i.1.1; have := i.le; have := nF_eq; omega⟩
  · exact ⟨m, i1, i2⟩
theorem dst_of (I : BI0 E o n (bfN E o n)) (h : ¬ n < (bfN E o n).2.2) (c : Nat) : dst E o c = (bfN E o n).1 c := by
  have l := I.le
  have l2 := I.1.1
  unfold dst
  have := bfN_stop (E := E) (o := o) (n := n) (by omega) (nF - n)
  rw [show n + (nF - n) = nF by have := nF_eq; omega] at this
  rw [this]
theorem dst_early (g : GEd E) (I : BI0 E o n (bfN E o n)) (c : Nat) (h : (bfN E o n).1 c ≠ -1) : dst E o c = (bfN E o n).1 c := by
  have l := I.le
  have l2 := I.1.1
  have := bf_mono g I (nF - n) c h
  rw [show n + (nF - n) = nF by have := nF_eq; omega] at this
  exact this
/-- in so many steps -/
def Rch (E : Nat → Nat → Prop) (o : Nat) : Nat → Nat → Prop
  | 0, c => c = o
  | k + 1, c => ∃ p s, s < 4 ∧ Rch E o k p ∧ E p s ∧ nbC p s = c
theorem dst_rng (g : GEd E) (ho : o < 1600) (c : Nat) : dst E o c = -1 ∨ (0 ≤ dst E o c ∧ dst E o c < 1600 ∧ c < 1600) := by
  obtain ⟨n, I, e⟩ := bf_fin g ho
  have l := I.le
  unfold dst
  rcases I.2.2.1 c with q | ⟨i, hi, q⟩
  · exact Or.inl q
  · have := I.2.1 i hi
    rw [q] at this
    exact Or.inr ⟨this.2.1, by omega, this.1⟩
theorem dst_rch (g : GEd E) (ho : o < 1600) : ∀ (k : Nat) (c : Nat), dst E o c = k → Rch E o k c := by
  obtain ⟨n, I, e⟩ := bf_fin g ho
  intro k
  induction k with
  | zero =>
    intro c h
    refine Classical.byContradiction (fun q => ?_)
    have h' : (bfN E o nF).1 c = 0 := h
    obtain ⟨p, s, p1, p2, p3, p4, p5⟩ := I.2.2.2.2.2.2.2 c (by rw [h']; omega) q
    rcases I.2.2.1 p with z | ⟨i, hi, z⟩
    · exact p4 z
    · have := (I.2.1 i hi).2.1
      rw [z] at this
      omega
  | succ k ih =>
    intro c h
    have h' : (bfN E o nF).1 c = (k + 1 : Nat) := h
    have co : c ≠ o := fun q => by
      rw [q, I.2.2.2.2.2.2.1] at h'
      omega
    obtain ⟨p, s, p1, p2, p3, p4, p5⟩ := I.2.2.2.2.2.2.2 c (by rw [h']; omega) co
    refine ⟨p, s, p1, ih p ?_, p2, p3⟩
    show (bfN E o nF).1 p = k
    omega
theorem dst_le (g : GEd E) (ho : o < 1600) : ∀ (k : Nat) (c : Nat), Rch E o k c → dst E o c ≠ -1 ∧ dst E o c ≤ k := by
  obtain ⟨n, I, e⟩ := bf_fin g ho
  intro k
  induction k with
  | zero =>
    intro c h
    have : c = o := h
    subst this
    have z : dst E c c = 0 := I.2.2.2.2.2.2.1
    rw [z]
    omega
  | succ k ih =>
    intro c h
    obtain ⟨p, s, p1, p2, p3, p4⟩ := h
    obtain ⟨i1, i2⟩ := ih p p2
    rcases I.2.2.1 p with z | ⟨i, hi, z⟩
    · exact absurd z i1
    · have := I.2.2.2.2.2.1 i s (by omega) p1 (by rw [z]; exact p3)
      rw [z, p4] at this
      have d1 : dst E o c = (bfN E o nF).1 c := rfl
      have d2 : dst E o p = (bfN E o nF).1 p := rfl
      rw [d1]
      rw [d2] at i2
      exact ⟨this.1, by omega⟩
end BF
