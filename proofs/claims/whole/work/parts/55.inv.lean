/-! ===== the invariant ===== -/
def said (h : HP) (y k : Nat) : Int32 := hI h (y + 13) k
/-- thing t, field k, of what is said -/
def tS (S : Nat → Int32) (t k : Nat) : Int32 := S (1608 + 12 * t + k)
theorem sd_tS (h : HP) (y : Nat) : sd h y = tS (said h y) := rfl
def inn (A : Nat → Nat → Int32) (t r : Nat) : Prop := (A r 1).toInt + 1 ≤ (A t 1).toInt ∧ (A r 2).toInt + 1 ≤ (A t 2).toInt ∧ (A t 3).toInt + 1 ≤ (A r 3).toInt ∧ (A t 4).toInt + 1 ≤ (A r 4).toInt
def clr (A : Nat → Nat → Int32) (t u : Nat) : Prop := (A t 3).toInt < (A u 1).toInt ∨ (A u 3).toInt < (A t 1).toInt ∨ (A t 4).toInt < (A u 2).toInt ∨ (A u 4).toInt < (A t 2).toInt
def geo (c r : Int32) (A : Nat → Nat → Int32) (t : Nat) : Prop := 0 ≤ (A t 1).toInt ∧ (A t 1).toInt < (A t 3).toInt ∧ (A t 3).toInt ≤ c.toInt ∧ 0 ≤ (A t 2).toInt ∧ (A t 2).toInt < (A t 4).toInt ∧ (A t 4).toInt ≤ r.toInt
/-- things lie in one another with room between them, below M -/
def WfT (M : Nat) (c r : Int32) (A : Nat → Nat → Int32) : Prop :=
  (∀ t, t < M → A t 0 = 1 → geo c r A t) ∧ (∀ t, t < M → A t 0 = 1 → A t 6 = -1 ∨ ∃ u, 6 ≤ u ∧ u < M ∧ A t 6 = nI u ∧ A u 0 = 1 ∧ inn A t u) ∧
  (∀ t u, t < M → u < M → t ≠ u → A t 0 = 1 → A u 0 = 1 → A t 6 = A u 6 → clr A t u)
def rng (x : Int32) (lo hi : Int) : Prop := lo ≤ x.toInt ∧ x.toInt ≤ hi
/-- a gate and keys -/
def gat (A : Nat → Nat → Int32) (t : Nat) : Prop := rng (A t 10) 0 4095 ∧ ((A t 7 = -1 ∧ A t 8 = -1 ∧ A t 9 = -1) ∨
  (rng (A t 7) 0 3 ∧ 0 ≤ (A t 8).toInt ∧ (A t 8).toInt < (if (A t 7).toInt % 2 = 0 then (A t 3).toInt - (A t 1).toInt else (A t 4).toInt - (A t 2).toInt) ∧ rng (A t 9) 0 999))
def WfN (S : Nat → Int32) : Prop :=
  (rng (S 0) 5 40 ∧ rng (S 1) 5 40 ∧ rng (S 2) 0 6 ∧ 0 ≤ (S 3).toInt ∧ 0 ≤ (S 4).toInt) ∧ (∀ c, c < 1600 → rng (S (8 + c)) 0 511) ∧ (∀ j, j < 144 → rng (S (2256 + j)) (-9) 9) ∧ (∀ f, f < 12 → S (2256 + 13 * f) = 0) ∧
  (∀ t, t < 6 → (tS S t 0 = 1 ↔ (t : Int) < (S 2).toInt)) ∧ (∀ t, t < 30 → tS S t 0 = 1 → (t < 6 → tS S t 5 = -1 ∧ tS S t 7 = -1) ∧ (6 ≤ t → rng (tS S t 5) 0 11) ∧ gat (tS S) t) ∧
  (∀ e, e < 6 → S (2400 + 6 * e) = 0 ∨ (S (2400 + 6 * e) = 1 ∧ rng (S (2400 + 6 * e + 1)) 0 11 ∧ ∀ j, 2 ≤ j → j < 6 → rng (S (2400 + 6 * e + j)) 0 39))
/-- walls only where houses are -/
def WfH (S : Nat → Int32) : Prop := (∃ t, t < 30 ∧ tS S t 0 = 1) → 0 < (S 2).toInt
def WF (S : Nat → Int32) : Prop := WfN S ∧ WfH S ∧ bin (tS S) ∧ (∀ t, 30 ≤ t → t < 54 → tS S t 0 = 0) ∧ WfT 30 (S 0) (S 1) (tS S)
/-- a State holds what is said -/
def CoTh (h : HP) (s : Nat) (S : Nat → Int32) (t : Nat) : Prop := tg h s t 0 = tS S t 0 ∧ (tS S t 0 = 1 → (∀ k, 1 ≤ k → k ≤ 6 → tg h s t k = tS S t k) ∧ tg h s t 7 = nI (deepN (tS S) 31 (nI t)) ∧ tg h s t 8 = tS S t 7 ∧ (tS S t 7 = -1 → tg h s t 10 = 0) ∧ (¬ tS S t 7 = -1 → tg h s t 9 = tS S t 8 ∧ tg h s t 10 = tS S t 9) ∧ tg h s t 11 = tS S t 10)
def CoSt (h : HP) (s : Nat) (S : Nat → Int32) : Prop :=
  (∀ j, j < 5 → hI h s j = S j) ∧ (∀ c, c < 1600 → hI h (s + 1) c = S (8 + c)) ∧ (∀ j, j < 144 → hI h (s + 2) j = S (2256 + j)) ∧ (∀ t, t < 30 → CoTh h s S t) ∧ tg h s 30 0 = 0 ∧
  (∀ e, e < 6 → hI h (s + 36 + e) 0 = S (2400 + 6 * e) ∧ (S (2400 + 6 * e) = 1 → ∀ j, 1 ≤ j → j < 6 → hI h (s + 36 + e) j = S (2400 + 6 * e + j)))
/-! sums over rectangles -/
def sum1 (f : Nat → Int) : Nat → Int
  | 0 => 0
  | n + 1 => sum1 f n + f n
def sum2 (f : Nat → Nat → Int) (x y : Nat) : Int := sum1 (fun j => sum1 (fun i => f i j) x) y
def wrt (S : Nat → Int32) (i j : Nat) : Int := (S (8 + (40 * j + i))).toInt % 128
def riv (S : Nat → Int32) (i j : Nat) : Int := (S (8 + (40 * j + i))).toInt / 128 % 2
def wel (S : Nat → Int32) (i j : Nat) : Int := (S (8 + (40 * j + i))).toInt / 256
/-- rivers on both sides of a piece of a level line, of an upright one -/
def lvl (S : Nat → Int32) (i j : Nat) : Int := if 0 < j ∧ (j : Int) < (S 1).toInt ∧ riv S i j = 1 ∧ riv S i (j - 1) = 1 then 1 else 0
def upr (S : Nat → Int32) (i j : Nat) : Int := if 0 < i ∧ (i : Int) < (S 0).toInt ∧ riv S i j = 1 ∧ riv S (i - 1) j = 1 then 1 else 0
def SumsOK (h : HP) (b : Nat) (S : Nat → Int32) : Prop := ∀ x y : Nat, (x : Int) ≤ (S 0).toInt → (y : Int) ≤ (S 1).toInt →
  (hI h (b + 16) (41 * y + x)).toInt = sum2 (wrt S) x y ∧ (hI h (b + 17) (41 * y + x)).toInt = sum2 (wel S) x y ∧ (hI h (b + 18) (41 * y + x)).toInt = sum2 (riv S) x y ∧
  (hI h (b + 19) (41 * y + x)).toInt = sum1 (fun i => lvl S i y) x ∧ (hI h (b + 20) (41 * x + y)).toInt = sum1 (fun j => upr S x j) y
def noTh (S : Nat → Int32) : Prop := ∀ t, t < 30 → tS S t 0 = 0
/-! scripts: what is told, as signs in the order of a stack -/
abbrev Tok : Type := Nat × Int32
def SumP : Nat → List Tok → Prop
  | 0, _ => False
  | n + 1, l => (∃ v, rng v 0 99999 ∧ l = [(0, v)]) ∨ (∃ w, w < 12 ∧ l = [(1, nI w)]) ∨ ∃ a b s, SumP n a ∧ SumP n b ∧ 2 ≤ s ∧ s ≤ 5 ∧ l = a ++ b ++ [(s, 0)]
def TestP : Nat → List Tok → Prop
  | 0, _ => False
  | n + 1, l => (∃ m a b s, SumP m a ∧ SumP m b ∧ 6 ≤ s ∧ s ≤ 10 ∧ l = a ++ b ++ [(s, 0)]) ∨ (∃ a, TestP n a ∧ l = a ++ [(11, 0)]) ∨ ∃ a b s, TestP n a ∧ TestP n b ∧ (s = 12 ∨ s = 13) ∧ l = a ++ b ++ [(s, 0)]
/-- how many values a text pushes -/
def pushN (l : List Tok) : Nat := (l.filter (fun q => q.1 < 2)).length
def encR (q : Tok) : Int32 := nI q.1 + 16 * q.2
def encC (q : Tok) : Int32 := if q.1 = 0 then q.2 else if q.1 = 1 then -20 - q.2 else if q.1 = 11 then -13 else if q.1 = 12 then -11 else if q.1 = 13 then -12 else - nI q.1
def SegC (h : HP) (A p : Nat) (l : List Tok) : Prop := p + l.length < hN h A ∧ (∀ j q, l[j]? = some q → hI h A (p + j) = encC q) ∧ hI h A (p + l.length) = -1
def SegR (h : HP) (A p : Nat) (l : List Tok) : Prop := ∀ j q, l[j]? = some q → hI h A (p + j) = encR q
/-- a clause: its word (12 far, 13 may, 14 not, 15 join, 16 want), its sum, its test -/
abbrev Cla : Type := Nat × List Tok × Option (List Tok)
def ClaP (q : Cla) : Prop := (q.1 = 15 ∧ q.2.2 = none) ∨ ((q.1 = 13 ∨ q.1 = 14) ∧ ∃ l, q.2.2 = some l ∧ (∃ n, TestP n l) ∧ pushN l ≤ 60) ∨
  ((q.1 = 12 ∨ q.1 = 16) ∧ (∃ n, SumP n q.2.1) ∧ pushN q.2.1 ≤ 60 ∧ ∀ l, q.2.2 = some l → (∃ n, TestP n l) ∧ pushN l ≤ 60)
/-- the class's Script at a -/
def ScrC (G : GG) (h : HP) (a : Nat) (C : List Cla) : Prop := Kd G h a 4 ∧ (hR h a 1 = some (a + 1) ∧ hR h a 2 = some (a + 2) ∧ hR h a 3 = some (a + 3) ∧ hR h a 4 = some (a + 4) ∧ hR h a 5 = some (a + 5)) ∧ (Kd G h (a + 1) 14 ∧ hN h (a + 1) ≤ 424) ∧ (Kd G h (a + 2) 14 ∧ hN h (a + 2) = C.length) ∧ (Kd G h (a + 3) 14 ∧ hN h (a + 3) = C.length) ∧ (Kd G h (a + 4) 14 ∧ hN h (a + 4) = C.length) ∧ (Kd G h (a + 5) 15 ∧ hN h (a + 5) = 64) ∧
  ∀ i q, C[i]? = some q → hI h (a + 2) i = nI q.1 ∧ ((q.1 = 12 ∨ q.1 = 16) → ∃ p, hI h (a + 3) i = nI p ∧ SegC h (a + 1) p q.2.1) ∧ (q.2.2 = none → hI h (a + 4) i = -1) ∧ (∀ l, q.2.2 = some l → ∃ p, hI h (a + 4) i = nI p ∧ SegC h (a + 1) p l)
def srt (k : Nat) : Nat := if k = 13 then 1 else if k = 14 then 2 else 0
/-- the reference's text t -/
def ScrR (h : HP) (y t : Nat) (C : List Cla) : Prop := hI h (y + 6) t = nI C.length ∧ ∀ i q, C[i]? = some q → hI h (y + 5) (60 * t + 5 * i) = nI (srt q.1) ∧
  (∃ p, p + q.2.1.length ≤ 400 ∧ hI h (y + 5) (60 * t + 5 * i + 1) = nI p ∧ hI h (y + 5) (60 * t + 5 * i + 2) = nI (p + q.2.1.length) ∧ SegR h (y + 3) (400 * t + p) q.2.1) ∧
  (q.2.2 = none → hI h (y + 5) (60 * t + 5 * i + 3) = -1) ∧ (∀ l, q.2.2 = some l → ∃ p, p + l.length ≤ 400 ∧ hI h (y + 5) (60 * t + 5 * i + 3) = nI p ∧ hI h (y + 5) (60 * t + 5 * i + 4) = nI (p + l.length) ∧ SegR h (y + 3) (400 * t + p) l)
def ScrX (G : GG) (h : HP) (y a t : Nat) : Prop := ∃ C : List Cla, C.length ≤ 12 ∧ (∀ q ∈ C, ClaP q ∧ (t < 6 → q.1 ≠ 16) ∧ (6 ≤ t → q.1 = 16)) ∧ ScrC G h a C ∧ ScrR h y t (C.filter (fun q => q.1 != 15)) ∧ hI h a 0 = if hI h (y + 7) t = 1 then 1 else 0
/-! the tapes -/
def TapeX (h : HP) (b y : Nat) : Prop := ∃ n, n ≤ 400 ∧ hI h (b + 1) 0 = nI n ∧ hI h y 1 = nI n ∧ ∀ k, k < n → hI h (b + 2) k = hI h (y + 1) k ∧ rng (hI h (b + 2) k) (-128) 127
/-! texts and images: where they lie -/
def TextX (G : GG) (h : HP) (b y : Nat) (nl nw : Nat) (La Wi : Nat → Nat) : Prop := nl ≤ 6 ∧ nw ≤ 6 ∧ hI h b 14 = nI nl ∧ hI h b 15 = nI nw ∧ hI h (y + 2) 0 = nI nl ∧ hI h (y + 2) 1 = nI nw ∧
  (∀ i, i < nl → hR h (b + 12) i = some (La i) ∧ y + 21 ≤ La i ∧ La i + 6 ≤ hZ h ∧ ScrX G h y (La i) i) ∧ (∀ i, i < nw → hR h (b + 13) i = some (Wi i) ∧ y + 21 ≤ Wi i ∧ Wi i + 6 ≤ hZ h ∧ ScrX G h y (Wi i) (6 + i))
def imS (h : HP) (y k j : Nat) : Int32 := hI h (y + 19) (2440 * k + j)
def ImgX (G : GG) (h : HP) (b y : Nat) (Im : Nat → Nat) : Prop := ∀ k, k < 4 → (hR h (b + 14) k = none ∧ hI h (y + 20) k = 0) ∨
  (hR h (b + 14) k = some (Im k) ∧ hI h (y + 20) k = 1 ∧ y + 21 ≤ Im k ∧ Im k + 42 ≤ hZ h ∧ StSh G h (Im k) ∧ CoSt h (Im k) (imS h y k) ∧ WF (imS h y k) ∧ (imS h y k 3).toInt ≤ 9999)
def imd (h : HP) (y k : Nat) : Bool := hI h (y + 20) k != 0
def DisX (h : HP) (y nl nw : Nat) (La Wi Im : Nat → Nat) : Prop := (∀ k, k < 4 → imd h y k = true → (∀ i, i < nl → La i + 6 ≤ Im k ∨ Im k + 42 ≤ La i) ∧ (∀ i, i < nw → Wi i + 6 ≤ Im k ∨ Im k + 42 ≤ Wi i) ∧ ∀ j, j < 4 → j ≠ k → imd h y j = true → Im j + 42 ≤ Im k ∨ Im k + 42 ≤ Im j)
def BudX (u0 : Nat) (h : HP) (y nl nw : Nat) : Prop := hZ h ≤ y + 21 + 6 * (nl + nw) + 42 * cntF (imd h y) 0 4 ∧ hU h ≤ u0 + 70000 + 600 * (nl + nw) + 3000 * cntF (imd h y) 0 4 ∧ y + 21 ≤ hZ h
def Rest (G : GG) (u0 : Nat) (h : HP) (b y : Nat) : Prop := (b = G.1 ∧ y = b + 119) ∧ Kd G h b 11 ∧ ShL G h b clL ∧ MdSh G h y ∧ TapeX h b y ∧ ∃ nl nw La Wi Im, TextX G h b y nl nw La Wi ∧ ImgX G h b y Im ∧ DisX h y nl nw La Wi Im ∧ BudX u0 h y nl nw
def NowX (G : GG) (h : HP) (b s p : Nat) : Prop := ((s = b + 35 ∧ p = b + 77) ∨ (s = b + 77 ∧ p = b + 35)) ∧ hR h b 12 = some s ∧ hR h b 13 = some p ∧ StSh G h s ∧ StSh G h p
/-- the edges of the tables -/
def BorZ (h : HP) (b : Nat) : Prop := ∀ i, i ≤ 40 → (hI h (b + 16) i = 0 ∧ hI h (b + 17) i = 0 ∧ hI h (b + 18) i = 0) ∧ (hI h (b + 16) (41 * i) = 0 ∧ hI h (b + 17) (41 * i) = 0 ∧ hI h (b + 18) (41 * i) = 0) ∧ hI h (b + 19) (41 * i) = 0 ∧ hI h (b + 20) (41 * i) = 0
def Core (h : HP) (b y s : Nat) : Prop := CoSt h s (said h y) ∧ WF (said h y) ∧ (said h y 3).toInt ≤ 9999 ∧ (noTh (said h y) ∨ SumsOK h b (said h y)) ∧ BorZ h b
def InvB (G : GG) (u0 : Nat) (h : HP) (b y s p : Nat) : Prop := Rest G u0 h b y ∧ NowX G h b s p ∧ Core h b y s
def Inv (G : GG) (u0 : Nat) (h : HP) : Prop := ∃ s p, InvB G u0 h G.1 (G.1 + 119) s p
theorem cntF_le4 (p : Nat → Bool) : cntF p 0 4 ≤ 4 := cntF_le p 4 0
theorem inv_k (G : GG) (u0 : Nat) (h : HP) (I : Inv G u0 h) : Kd G h G.1 11 ∧ Kd G h (G.1 + 119) 12 := by
  obtain ⟨s, p, R, -, -⟩ := I
  exact ⟨R.2.1, R.2.2.2.1.1⟩
theorem inv_bud (G : GG) (u0 : Nat) (h : HP) (I : Inv G u0 h) : hZ h ≤ G.1 + 600000 ∧ hU h ≤ u0 + 7302250 := by
  obtain ⟨s, p, ⟨-, -, -, -, -, nl, nw, La, Wi, Im, T, -, -, B⟩, -, -⟩ := I
  have h1 := T.1
  have h2 := T.2.1
  have h3 := cntF_le4 (imd h (G.1 + 119))
  obtain ⟨b1, b2, -⟩ := B
  omega
