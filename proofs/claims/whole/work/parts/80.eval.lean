/-! ===== texts run ===== -/
def FrS (PI PL : Nat → Nat → Prop) (h h2 : HP) : Prop := KP h h2 ∧ hZ h2 = hZ h ∧ hU h2 = hU h ∧ (∀ a k, hR h2 a k = hR h a k) ∧ (∀ a k, ¬ PI a k → hI h2 a k = hI h a k) ∧ ∀ a k, ¬ PL a k → hL h2 a k = hL h a k
theorem frS_rf (PI PL : Nat → Nat → Prop) (h : HP) : FrS PI PL h h := ⟨KP.rf h, rfl, rfl, fun _ _ => rfl, fun _ _ _ => rfl, fun _ _ _ => rfl⟩
theorem FrS.tr {PI PL : Nat → Nat → Prop} {h h1 h2 : HP} (p : FrS PI PL h h1) (q : FrS PI PL h1 h2) : FrS PI PL h h2 := ⟨p.1.tr q.1, q.2.1.trans p.2.1, q.2.2.1.trans p.2.2.1, fun a k => (q.2.2.2.1 a k).trans (p.2.2.2.1 a k), fun a k n => (q.2.2.2.2.1 a k n).trans (p.2.2.2.2.1 a k n), fun a k n => (q.2.2.2.2.2 a k n).trans (p.2.2.2.2.2 a k n)⟩
theorem FrS.weak {PI PL PI' PL' : Nat → Nat → Prop} {h h2 : HP} (p : FrS PI PL h h2) (hi : ∀ a k, PI a k → PI' a k) (hl : ∀ a k, PL a k → PL' a k) : FrS PI' PL' h h2 := ⟨p.1, p.2.1, p.2.2.1, p.2.2.2.1, fun a k n => p.2.2.2.2.1 a k (fun z => n (hi a k z)), fun a k n => p.2.2.2.2.2 a k (fun z => n (hl a k z))⟩
theorem frS_sI {PI PL : Nat → Nat → Prop} (h : HP) {a k : Nat} (v : Int32) (hp : PI a k) : FrS PI PL h (sI h a k v) := ⟨kp_sI h a k v, rfl, rfl, fun _ _ => rfl, fun b j q => by
  rw [hI_sI, if_neg]
  rintro ⟨rfl, rfl⟩
  exact q hp, fun _ _ _ => rfl⟩
theorem frS_sL {PI PL : Nat → Nat → Prop} (h : HP) {a k : Nat} (v : Int64) (hp : PL a k) : FrS PI PL h (sL h a k v) := ⟨kp_sL h a k v, rfl, rfl, fun _ _ => rfl, fun _ _ _ => rfl, fun b j q => by
  rw [hL_sL, if_neg]
  rintro ⟨rfl, rfl⟩
  exact q hp⟩
theorem FrI.s {P : Nat → Nat → Prop} {h h2 : HP} (p : FrI P h h2) (PL : Nat → Nat → Prop) : FrS P PL h h2 := ⟨p.1, p.2.1, p.2.2.1, fun a k => p.r a k, fun a k n => p.i n, fun a k _ => p.l a k⟩
theorem FrS.j {PI PL : Nat → Nat → Prop} {h h2 : HP} (p : FrS PI PL h h2) (RP : Nat → Nat → Prop) : FrJ PI RP h h2 := ⟨p.1, p.2.1, p.2.2.1, fun a k _ => p.2.2.2.1 a k, fun a k n => p.2.2.2.2.1 a k n⟩
theorem FrS.kd {PI PL : Nat → Nat → Prop} {G : GG} {h h2 : HP} {a κ : Nat} (p : FrS PI PL h h2) (k : Kd G h a κ) : Kd G h2 a κ := k.up p.1
theorem FrS.n {PI PL : Nat → Nat → Prop} {G : GG} {h h2 : HP} {a κ : Nat} (p : FrS PI PL h h2) (k : Kd G h a κ) : hN h2 a = hN h a := k.len p.1
theorem FrS.r {PI PL : Nat → Nat → Prop} {h h2 : HP} (p : FrS PI PL h h2) (a k : Nat) : hR h2 a k = hR h a k := p.2.2.2.1 a k
theorem FrS.i {PI PL : Nat → Nat → Prop} {h h2 : HP} (p : FrS PI PL h h2) {a k : Nat} (q : ¬ PI a k) : hI h2 a k = hI h a k := p.2.2.2.2.1 a k q
theorem FrS.l {PI PL : Nat → Nat → Prop} {h h2 : HP} (p : FrS PI PL h h2) {a k : Nat} (q : ¬ PL a k) : hL h2 a k = hL h a k := p.2.2.2.2.2 a k q
/-- a stack in an array -/
def StkAt (h : HP) (A : Nat) : List Int64 → Prop
  | [] => True
  | v :: r => hL h A r.length = v ∧ StkAt h A r
theorem StkAt.fr {h h2 : HP} {A : Nat} : ∀ {st : List Int64}, (∀ i, i < st.length → hL h2 A i = hL h A i) → StkAt h A st → StkAt h2 A st
  | [], _, _ => trivial
  | v :: r, e, ⟨s1, s2⟩ => ⟨(e _ (by simp)).trans s1, s2.fr (fun i hi => e i (by simp; omega))⟩
theorem stk_push {h : HP} {A : Nat} {st : List Int64} (v : Int64) (S : StkAt h A st) : StkAt (sL h A st.length v) A (v :: st) := ⟨by rw [hL_sL, if_pos ⟨rfl, rfl⟩], S.fr (fun i hi => by rw [hL_sL, if_neg (by omega)])⟩
def apV (s : Nat) (a b : Int64) : Int64 :=
  if s = 2 then a + b else if s = 3 then a - b else if s = 4 then a * b else if s = 5 then (if lg_cmp b 0 = 0 then 0 else a / b) else
  if s = 6 then (if 0 ≤ lg_cmp a b then 0 else 1) else if s = 7 then (if 0 < lg_cmp a b then 0 else 1) else if s = 8 then (if lg_cmp a b = 0 then 1 else 0) else
  if s = 9 then (if lg_cmp a b < 0 then 0 else 1) else if s = 10 then (if lg_cmp a b ≤ 0 then 0 else 1) else if s = 12 then a &&& b else a ||| b
/-- what a sum comes to -/
def EvS (w : Nat → Int64) : Nat → List Tok → Int64 → Prop
  | 0, _, _ => False
  | n + 1, l, v => (∃ k, rng k 0 99999 ∧ l = [(0, k)] ∧ v = k.toInt64) ∨ (∃ i, i < 12 ∧ l = [(1, nI i)] ∧ v = w i) ∨ ∃ a b s va vb, EvS w n a va ∧ EvS w n b vb ∧ (2 ≤ s ∧ s ≤ 5) ∧ l = a ++ b ++ [(s, 0)] ∧ v = apV s va vb
def EvT (w : Nat → Int64) : Nat → List Tok → Int64 → Prop
  | 0, _, _ => False
  | n + 1, l, v => (∃ m a b s va vb, EvS w m a va ∧ EvS w m b vb ∧ (6 ≤ s ∧ s ≤ 10) ∧ l = a ++ b ++ [(s, 0)] ∧ v = apV s va vb) ∨ (∃ a va, EvT w n a va ∧ l = a ++ [(11, 0)] ∧ v = 1 - va) ∨ ∃ a b s va vb, EvT w n a va ∧ EvT w n b vb ∧ (s = 12 ∨ s = 13) ∧ l = a ++ b ++ [(s, 0)] ∧ v = apV s va vb
theorem SumP.ev (w : Nat → Int64) : ∀ {n : Nat} {l : List Tok}, SumP n l → ∃ v, EvS w n l v
  | 0, _, h => h.elim
  | n + 1, l, h => by
    rcases h with ⟨k, hk, e⟩ | ⟨i, hi, e⟩ | ⟨a, b, s, ha, hb, h1, h2, e⟩
    · exact ⟨_, Or.inl ⟨k, hk, e, rfl⟩⟩
    · exact ⟨_, Or.inr (Or.inl ⟨i, hi, e, rfl⟩)⟩
    · obtain ⟨va, ea⟩ := SumP.ev w ha
      obtain ⟨vb, eb⟩ := SumP.ev w hb
      exact ⟨_, Or.inr (Or.inr ⟨a, b, s, va, vb, ea, eb, ⟨h1, h2⟩, e, rfl⟩)⟩
theorem bit01 {a b : Int64} (ha : a = 0 ∨ a = 1) (hb : b = 0 ∨ b = 1) : (a &&& b = 0 ∨ a &&& b = 1) ∧ (a ||| b = 0 ∨ a ||| b = 1) := by
  rcases ha with rfl | rfl <;> rcases hb with rfl | rfl <;> decide
theorem TestP.ev (w : Nat → Int64) : ∀ {n : Nat} {l : List Tok}, TestP n l → ∃ v, EvT w n l v ∧ (v = 0 ∨ v = 1)
  | 0, _, h => h.elim
  | n + 1, l, h => by
    rcases h with ⟨m, a, b, s, ha, hb, h1, h2, e⟩ | ⟨a, ha, e⟩ | ⟨a, b, s, ha, hb, hs, e⟩
    · obtain ⟨va, ea⟩ := ha.ev w
      obtain ⟨vb, eb⟩ := hb.ev w
      refine ⟨_, Or.inl ⟨m, a, b, s, va, vb, ea, eb, ⟨h1, h2⟩, e, rfl⟩, ?_⟩
      have : s = 6 ∨ s = 7 ∨ s = 8 ∨ s = 9 ∨ s = 10 := by omega
      unfold apV
      rcases this with rfl | rfl | rfl | rfl | rfl <;> simp only [Nat.reduceEqDiff, if_false, if_true] <;> split <;> simp
    · obtain ⟨va, ea, e01⟩ := TestP.ev w ha
      refine ⟨_, Or.inr (Or.inl ⟨a, va, ea, e, rfl⟩), ?_⟩
      rcases e01 with rfl | rfl <;> decide
    · obtain ⟨va, ea, a01⟩ := TestP.ev w ha
      obtain ⟨vb, eb, b01⟩ := TestP.ev w hb
      refine ⟨_, Or.inr (Or.inr ⟨a, b, s, va, vb, ea, eb, hs, e, rfl⟩), ?_⟩
      have := bit01 a01 b01
      unfold apV
      rcases hs with rfl | rfl
      · simp only [Nat.reduceEqDiff, if_false, if_true]; exact this.1
      · simp only [Nat.reduceEqDiff, if_false]; exact this.2
theorem lz {b : Int64} (c : ¬ lg_cmp b 0 = 0) : ¬ b = 0 := fun q => c (by rw [q]; rfl)
theorem s_apply {G : GG} {d : Nat} {h : HP} {Q : Option Value → HP → Prop} {s : Nat} {a b : Int64} (hs : (2 ≤ s ∧ s ≤ 10) ∨ s = 12 ∨ s = 13) (hQ : Q (some (.long (apV s a b))) h) : Cal G d mX4_apply [.int (encC (s, 0)), .long a, .long b] h Q := by
  have : s = 2 ∨ s = 3 ∨ s = 4 ∨ s = 5 ∨ s = 6 ∨ s = 7 ∨ s = 8 ∨ s = 9 ∨ s = 10 ∨ s = 12 ∨ s = 13 := by omega
  unfold apV at hQ
  rcases this with rfl | rfl | rfl | rfl | rfl | rfl | rfl | rfl | rfl | rfl | rfl
  · simp only [Nat.reduceEqDiff, if_false, if_true] at hQ
    exact e_X4_apply ⟨fun q => absurd q (by decide), fun _ => ⟨fun q => absurd q (by decide), fun _ => ⟨fun q => absurd q (by decide), fun _ => ⟨fun q => absurd q (by decide), fun _ => ⟨fun q => absurd q (by decide), fun _ => ⟨fun q => absurd q (by decide), fun _ => ⟨fun q => absurd q (by decide), fun _ => ⟨fun q => absurd q (by decide), fun _ => ⟨fun q => absurd q (by decide), fun _ => ⟨fun _ => hQ, fun q => absurd rfl q⟩⟩⟩⟩⟩⟩⟩⟩⟩⟩
  · simp only [Nat.reduceEqDiff, if_false, if_true] at hQ
    exact e_X4_apply ⟨fun q => absurd q (by decide), fun _ => ⟨fun q => absurd q (by decide), fun _ => ⟨fun q => absurd q (by decide), fun _ => ⟨fun q => absurd q (by decide), fun _ => ⟨fun q => absurd q (by decide), fun _ => ⟨fun q => absurd q (by decide), fun _ => ⟨fun q => absurd q (by decide), fun _ => ⟨fun q => absurd q (by decide), fun _ => ⟨fun _ => hQ, fun q => absurd rfl q⟩⟩⟩⟩⟩⟩⟩⟩⟩
  · simp only [Nat.reduceEqDiff, if_false, if_true] at hQ
    exact e_X4_apply ⟨fun q => absurd q (by decide), fun _ => ⟨fun q => absurd q (by decide), fun _ => ⟨fun q => absurd q (by decide), fun _ => ⟨fun q => absurd q (by decide), fun _ => ⟨fun q => absurd q (by decide), fun _ => ⟨fun q => absurd q (by decide), fun _ => ⟨fun q => absurd q (by decide), fun _ => ⟨fun _ => hQ, fun q => absurd rfl q⟩⟩⟩⟩⟩⟩⟩⟩
  · simp only [Nat.reduceEqDiff, if_false, if_true] at hQ
    exact e_X4_apply ⟨fun q => absurd q (by decide), fun _ => ⟨fun q => absurd q (by decide), fun _ => ⟨fun q => absurd q (by decide), fun _ => ⟨fun q => absurd q (by decide), fun _ => ⟨fun q => absurd q (by decide), fun _ => ⟨fun q => absurd q (by decide), fun _ => ⟨fun _ => ⟨fun c => ⟨lz c, by rw [if_neg c] at hQ; exact hQ⟩, fun c => by rw [if_pos c] at hQ; exact hQ⟩, fun q => absurd rfl q⟩⟩⟩⟩⟩⟩⟩
  · simp only [Nat.reduceEqDiff, if_false, if_true] at hQ
    exact e_X4_apply ⟨fun q => absurd q (by decide), fun _ => ⟨fun q => absurd q (by decide), fun _ => ⟨fun q => absurd q (by decide), fun _ => ⟨fun q => absurd q (by decide), fun _ => ⟨fun q => absurd q (by decide), fun _ => ⟨fun _ => ⟨fun c => by rw [if_pos c] at hQ; exact hQ, fun c => by rw [if_neg c] at hQ; exact hQ⟩, fun q => absurd rfl q⟩⟩⟩⟩⟩⟩
  · simp only [Nat.reduceEqDiff, if_false, if_true] at hQ
    exact e_X4_apply ⟨fun q => absurd q (by decide), fun _ => ⟨fun q => absurd q (by decide), fun _ => ⟨fun q => absurd q (by decide), fun _ => ⟨fun q => absurd q (by decide), fun _ => ⟨fun _ => ⟨fun c => by rw [if_pos c] at hQ; exact hQ, fun c => by rw [if_neg c] at hQ; exact hQ⟩, fun q => absurd rfl q⟩⟩⟩⟩⟩
  · simp only [Nat.reduceEqDiff, if_false, if_true] at hQ
    exact e_X4_apply ⟨fun q => absurd q (by decide), fun _ => ⟨fun q => absurd q (by decide), fun _ => ⟨fun q => absurd q (by decide), fun _ => ⟨fun _ => ⟨fun c => by rw [if_neg c] at hQ; exact hQ, fun c => by rw [if_pos c] at hQ; exact hQ⟩, fun q => absurd rfl q⟩⟩⟩⟩
  · simp only [Nat.reduceEqDiff, if_false, if_true] at hQ
    exact e_X4_apply ⟨fun q => absurd q (by decide), fun _ => ⟨fun q => absurd q (by decide), fun _ => ⟨fun _ => ⟨fun c => by rw [if_pos c] at hQ; exact hQ, fun c => by rw [if_neg c] at hQ; exact hQ⟩, fun q => absurd rfl q⟩⟩⟩
  · simp only [Nat.reduceEqDiff, if_false, if_true] at hQ
    exact e_X4_apply ⟨fun q => absurd q (by decide), fun _ => ⟨fun _ => ⟨fun c => by rw [if_pos c] at hQ; exact hQ, fun c => by rw [if_neg c] at hQ; exact hQ⟩, fun q => absurd rfl q⟩⟩
  · simp only [Nat.reduceEqDiff, if_false, if_true] at hQ
    exact e_X4_apply ⟨fun _ => hQ, fun q => absurd rfl q⟩
  · simp only [Nat.reduceEqDiff, if_false, if_true] at hQ
    exact e_X4_apply ⟨fun q => absurd q (by decide), fun _ => ⟨fun q => absurd q (by decide), fun _ => ⟨fun q => absurd q (by decide), fun _ => ⟨fun q => absurd q (by decide), fun _ => ⟨fun q => absurd q (by decide), fun _ => ⟨fun q => absurd q (by decide), fun _ => ⟨fun q => absurd q (by decide), fun _ => ⟨fun q => absurd q (by decide), fun _ => ⟨fun q => absurd q (by decide), fun _ => ⟨fun q => absurd q (by decide), fun _ => hQ⟩⟩⟩⟩⟩⟩⟩⟩⟩⟩
theorem r_one {G : GG} {d : Nat} {h : HP} {Q : Option Value → HP → Prop} {s : Nat} {a b : Int64} (hs : (2 ≤ s ∧ s ≤ 10) ∨ s = 12 ∨ s = 13) (hQ : Q (some (.long (apV s a b))) h) : Cal G d mX12_one [.int (nI s), .long a, .long b] h Q := by
  have : s = 2 ∨ s = 3 ∨ s = 4 ∨ s = 5 ∨ s = 6 ∨ s = 7 ∨ s = 8 ∨ s = 9 ∨ s = 10 ∨ s = 12 ∨ s = 13 := by omega
  unfold apV at hQ
  rcases this with rfl | rfl | rfl | rfl | rfl | rfl | rfl | rfl | rfl | rfl | rfl
  · simp only [Nat.reduceEqDiff, if_false, if_true] at hQ
    exact e_X12_one ⟨fun _ => hQ, fun q => absurd rfl q⟩
  · simp only [Nat.reduceEqDiff, if_false, if_true] at hQ
    exact e_X12_one ⟨fun q => absurd q (by decide), fun _ => ⟨fun _ => hQ, fun q => absurd rfl q⟩⟩
  · simp only [Nat.reduceEqDiff, if_false, if_true] at hQ
    exact e_X12_one ⟨fun q => absurd q (by decide), fun _ => ⟨fun q => absurd q (by decide), fun _ => ⟨fun _ => hQ, fun q => absurd rfl q⟩⟩⟩
  · simp only [Nat.reduceEqDiff, if_false, if_true] at hQ
    exact e_X12_one ⟨fun q => absurd q (by decide), fun _ => ⟨fun q => absurd q (by decide), fun _ => ⟨fun q => absurd q (by decide), fun _ => ⟨fun _ => ⟨fun c => ⟨lz c, by rw [if_neg c] at hQ; exact hQ⟩, fun c => by rw [if_pos c] at hQ; exact hQ⟩, fun q => absurd rfl q⟩⟩⟩⟩
  · simp only [Nat.reduceEqDiff, if_false, if_true] at hQ
    exact e_X12_one ⟨fun q => absurd q (by decide), fun _ => ⟨fun q => absurd q (by decide), fun _ => ⟨fun q => absurd q (by decide), fun _ => ⟨fun q => absurd q (by decide), fun _ => ⟨fun _ => ⟨fun c => by rw [if_pos c] at hQ; exact hQ, fun c => by rw [if_neg c] at hQ; exact hQ⟩, fun q => absurd rfl q⟩⟩⟩⟩⟩
  · simp only [Nat.reduceEqDiff, if_false, if_true] at hQ
    exact e_X12_one ⟨fun q => absurd q (by decide), fun _ => ⟨fun q => absurd q (by decide), fun _ => ⟨fun q => absurd q (by decide), fun _ => ⟨fun q => absurd q (by decide), fun _ => ⟨fun q => absurd q (by decide), fun _ => ⟨fun _ => ⟨fun c => by rw [if_pos c] at hQ; exact hQ, fun c => by rw [if_neg c] at hQ; exact hQ⟩, fun q => absurd rfl q⟩⟩⟩⟩⟩⟩
  · simp only [Nat.reduceEqDiff, if_false, if_true] at hQ
    exact e_X12_one ⟨fun q => absurd q (by decide), fun _ => ⟨fun q => absurd q (by decide), fun _ => ⟨fun q => absurd q (by decide), fun _ => ⟨fun q => absurd q (by decide), fun _ => ⟨fun q => absurd q (by decide), fun _ => ⟨fun q => absurd q (by decide), fun _ => ⟨fun _ => ⟨fun c => by rw [if_neg c] at hQ; exact hQ, fun c => by rw [if_pos c] at hQ; exact hQ⟩, fun q => absurd rfl q⟩⟩⟩⟩⟩⟩⟩
  · simp only [Nat.reduceEqDiff, if_false, if_true] at hQ
    exact e_X12_one ⟨fun q => absurd q (by decide), fun _ => ⟨fun q => absurd q (by decide), fun _ => ⟨fun q => absurd q (by decide), fun _ => ⟨fun q => absurd q (by decide), fun _ => ⟨fun q => absurd q (by decide), fun _ => ⟨fun q => absurd q (by decide), fun _ => ⟨fun q => absurd q (by decide), fun _ => ⟨fun _ => ⟨fun c => by rw [if_pos c] at hQ; exact hQ, fun c => by rw [if_neg c] at hQ; exact hQ⟩, fun q => absurd rfl q⟩⟩⟩⟩⟩⟩⟩⟩
  · simp only [Nat.reduceEqDiff, if_false, if_true] at hQ
    exact e_X12_one ⟨fun q => absurd q (by decide), fun _ => ⟨fun q => absurd q (by decide), fun _ => ⟨fun q => absurd q (by decide), fun _ => ⟨fun q => absurd q (by decide), fun _ => ⟨fun q => absurd q (by decide), fun _ => ⟨fun q => absurd q (by decide), fun _ => ⟨fun q => absurd q (by decide), fun _ => ⟨fun q => absurd q (by decide), fun _ => ⟨fun _ => ⟨fun c => by rw [if_pos c] at hQ; exact hQ, fun c => by rw [if_neg c] at hQ; exact hQ⟩, fun q => absurd rfl q⟩⟩⟩⟩⟩⟩⟩⟩⟩
  · simp only [Nat.reduceEqDiff, if_false, if_true] at hQ
    exact e_X12_one ⟨fun q => absurd q (by decide), fun _ => ⟨fun q => absurd q (by decide), fun _ => ⟨fun q => absurd q (by decide), fun _ => ⟨fun q => absurd q (by decide), fun _ => ⟨fun q => absurd q (by decide), fun _ => ⟨fun q => absurd q (by decide), fun _ => ⟨fun q => absurd q (by decide), fun _ => ⟨fun q => absurd q (by decide), fun _ => ⟨fun q => absurd q (by decide), fun _ => ⟨fun q => absurd q (by decide), fun _ => ⟨fun _ => hQ, fun q => absurd rfl q⟩⟩⟩⟩⟩⟩⟩⟩⟩⟩⟩
  · simp only [Nat.reduceEqDiff, if_false, if_true] at hQ
    exact e_X12_one ⟨fun q => absurd q (by decide), fun _ => ⟨fun q => absurd q (by decide), fun _ => ⟨fun q => absurd q (by decide), fun _ => ⟨fun q => absurd q (by decide), fun _ => ⟨fun q => absurd q (by decide), fun _ => ⟨fun q => absurd q (by decide), fun _ => ⟨fun q => absurd q (by decide), fun _ => ⟨fun q => absurd q (by decide), fun _ => ⟨fun q => absurd q (by decide), fun _ => ⟨fun q => absurd q (by decide), fun _ => ⟨fun q => absurd q (by decide), fun _ => hQ⟩⟩⟩⟩⟩⟩⟩⟩⟩⟩⟩
