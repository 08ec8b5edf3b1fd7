/-! ===== a land, as it is read: pure ===== -/
def sbind {α β : Type} (r : Nat ⊕ α) (f : α → Nat ⊕ β) : Nat ⊕ β := match r with
  | .inl e => .inl e
  | .inr a => f a
def nmv (B : Nat → Int32) (n p : Nat) : Nat := (vlT B n p).toInt.toNat
def numR (B : Nat → Int32) (n p l u : Nat) : Nat ⊕ (Nat × Nat) := if kdT B n p = 2 ∧ (l : Int) ≤ (vlT B n p).toInt ∧ (vlT B n p).toInt ≤ u then .inr (nmv B n p, nxP B n p) else .inl (fcN B n p)
abbrev Rct : Type := Nat × Nat × Nat × Nat
def areaR (B : Nat → Int32) (n p : Nat) : Nat ⊕ (Rct × Nat) := sbind (numR B n p 0 40) (fun a => sbind (numR B n a.2 0 40) (fun b => sbind (numR B n b.2 (a.1 + 1) 40) (fun c => sbind (numR B n c.2 (b.1 + 1) 40) (fun d => .inr ((a.1, b.1, c.1, d.1), d.2)))))
def clrR (a b : Rct) : Prop := a.2.2.1 < b.1 ∨ b.2.2.1 < a.1 ∨ a.2.2.2 < b.2.1 ∨ b.2.2.2 < a.2.1
def inRc (a : Rct) (c : Nat) : Prop := (a.1 ≤ c % 40 ∧ c % 40 < a.2.2.1) ∧ a.2.1 ≤ c / 40 ∧ c / 40 < a.2.2.2
/-- place, columns, rows, wide told, cells, houses -/
abbrev LSt : Type := Nat × Nat × Nat × Bool × (Nat → Int32) × List Rct
noncomputable def mrk (a : Rct) (f : Int32 → Int32) (v : Nat → Int32) : Nat → Int32 := fun c => @ite _ (inRc a c) (Classical.propDecidable _) (f (v c)) (v c)
noncomputable def hseR (p : Nat) (s : LSt) (r : Rct × Nat) : Nat ⊕ LSt := @ite _ (∀ a ∈ s.2.2.2.2.2, clrR r.1 a) (Classical.propDecidable _) (.inr (r.2, s.2.1, s.2.2.1, s.2.2.2.1, s.2.2.2.2.1, s.2.2.2.2.2 ++ [r.1])) (.inl (1 + 8 * p + 5))
noncomputable def clsL (B : Nat → Int32) (n : Nat) (s : LSt) (c : Nat) : Nat ⊕ LSt :=
  if ¬ (kdT B n s.1 = 1 ∧ (vlT B n s.1 = 20 ∨ vlT B n s.1 = 22 ∨ vlT B n s.1 = 4 ∨ vlT B n s.1 = 6 ∨ vlT B n s.1 = 21)) then .inl (1 + 8 * s.1 + 0)
  else if 24 ≤ c ∨ (vlT B n s.1 = 20 ∧ s.2.2.2.1 = true) ∨ (vlT B n s.1 = 22 ∧ 6 ≤ s.2.2.2.2.2.length) then .inl (1 + 8 * s.1 + 4)
  else if vlT B n s.1 = 20 then sbind (numR B n (nxP B n s.1) 5 40) (fun a => sbind (numR B n a.2 5 40) (fun b => .inr (b.2, a.1, b.1, true, s.2.2.2.2)))
  else if vlT B n s.1 = 22 then sbind (areaR B n (nxP B n s.1)) (hseR (nxP B n s.1) s)
  else if vlT B n s.1 = 4 then sbind (numR B n (nxP B n s.1) 0 99) (fun a => sbind (areaR B n a.2) (fun r => .inr (r.2, s.2.1, s.2.2.1, s.2.2.2.1, mrk r.1 (fun v => v / 128 * 128 + nI a.1) s.2.2.2.2.1, s.2.2.2.2.2)))
  else if vlT B n s.1 = 6 then sbind (areaR B n (nxP B n s.1)) (fun r => .inr (r.2, s.2.1, s.2.2.1, s.2.2.2.1, mrk r.1 (fun v => v ||| 128) s.2.2.2.2.1, s.2.2.2.2.2))
  else sbind (numR B n (nxP B n s.1) 0 39) (fun a => sbind (numR B n a.2 0 39) (fun b => .inr (b.2, s.2.1, s.2.2.1, s.2.2.2.1, (fun c => if c = 40 * b.1 + a.1 then s.2.2.2.2.1 c ||| 256 else s.2.2.2.2.1 c), s.2.2.2.2.2)))
noncomputable def ldF (B : Nat → Int32) (n : Nat) : Nat → LSt → Nat → Nat ⊕ LSt
  | 0, _, _ => .inl 0
  | k + 1, s, c => sbind (clsL B n s c) (fun t => if kdT B n t.1 = 0 then .inr t else if kdT B n t.1 = 3 ∧ vlT B n t.1 = 59 then ldF B n k (nxP B n t.1, t.2) (c + 1) else .inl (1 + 8 * t.1 + 0))
def LS0 (B : Nat → Int32) (n : Nat) : LSt := (skp B n 0, 20, 20, false, fun _ => 1, [])
/-- what may be said of it -/
def RctP (a : Rct) : Prop := (a.1 < a.2.2.1 ∧ a.2.2.1 ≤ 40) ∧ a.2.1 < a.2.2.2 ∧ a.2.2.2 ≤ 40
def LsP (B : Nat → Int32) (n : Nat) (s : LSt) : Prop := At B n s.1 ∧ (5 ≤ s.2.1 ∧ s.2.1 ≤ 40) ∧ (5 ≤ s.2.2.1 ∧ s.2.2.1 ≤ 40) ∧ (∀ c, rng (s.2.2.2.2.1 c) 0 511) ∧ s.2.2.2.2.2.length ≤ 6 ∧ (∀ a ∈ s.2.2.2.2.2, RctP a) ∧ (∀ (i j : Nat) (a b : Rct), s.2.2.2.2.2[i]? = some a → s.2.2.2.2.2[j]? = some b → i ≠ j → clrR a b)
section LP
variable {B : Nat → Int32} {n p : Nat}
theorem numR_ok {l u : Nat} (h : okN B n p l u) : numR B n p l u = .inr (nmv B n p, nxP B n p) ∧ vlT B n p = nI (nmv B n p) ∧ l ≤ nmv B n p ∧ nmv B n p ≤ u := by
  unfold okN at h
  refine ⟨if_pos h, nI_ti (by unfold nmv; omega), ?_, ?_⟩ <;> unfold nmv <;> omega
theorem numR_bad {l u : Nat} (h : ¬ okN B n p l u) : numR B n p l u = .inl (fcN B n p) := if_neg h
theorem numR_inr {l u v q : Nat} (hp : p ≤ n) (h : numR B n p l u = .inr (v, q)) : l ≤ v ∧ v ≤ u ∧ At B n q := by
  by_cases c : okN B n p l u
  · obtain ⟨e, -, h1, h2⟩ := numR_ok c
    rw [e] at h
    have := Sum.inr.inj h
    rw [Prod.mk.injEq] at this
    rw [← this.1, ← this.2]
    exact ⟨h1, h2, at_nx hp⟩
  · rw [numR_bad c] at h
    cases h
theorem sbind_inr {α β : Type} {r : Nat ⊕ α} {f : α → Nat ⊕ β} {b : β} (h : sbind r f = .inr b) : ∃ a, r = .inr a ∧ f a = .inr b := by
  cases r with
  | inl e => cases h
  | inr a => exact ⟨a, rfl, h⟩
theorem areaR_inr {r : Rct} {q : Nat} (hp : p ≤ n) (h : areaR B n p = .inr (r, q)) : RctP r ∧ At B n q := by
  unfold areaR at h
  obtain ⟨a, e1, h⟩ := sbind_inr h
  obtain ⟨b, e2, h⟩ := sbind_inr h
  obtain ⟨c, e3, h⟩ := sbind_inr h
  obtain ⟨d, e4, h⟩ := sbind_inr h
  have i1 := numR_inr hp (v := a.1) (q := a.2) e1
  have i2 := numR_inr i1.2.2.1 (v := b.1) (q := b.2) e2
  have i3 := numR_inr i2.2.2.1 (v := c.1) (q := c.2) e3
  have i4 := numR_inr i3.2.2.1 (v := d.1) (q := d.2) e4
  have e := Sum.inr.inj h
  rw [Prod.mk.injEq] at e
  rw [← e.1, ← e.2]
  refine ⟨?_, i4.2.2⟩
  show (a.1 < c.1 ∧ c.1 ≤ 40) ∧ b.1 < d.1 ∧ d.1 ≤ 40
  omega
theorem mrk_yes {a : Rct} {f : Int32 → Int32} {v : Nat → Int32} {c : Nat} (h : inRc a c) : mrk a f v c = f (v c) := @if_pos _ (Classical.propDecidable _) h _ _ _
theorem mrk_no {a : Rct} {f : Int32 → Int32} {v : Nat → Int32} {c : Nat} (h : ¬ inRc a c) : mrk a f v c = v c := @if_neg _ (Classical.propDecidable _) h _ _ _
theorem hseR_ok {s : LSt} {r : Rct × Nat} (h : ∀ a ∈ s.2.2.2.2.2, clrR r.1 a) : hseR p s r = .inr (r.2, s.2.1, s.2.2.1, s.2.2.2.1, s.2.2.2.2.1, s.2.2.2.2.2 ++ [r.1]) := @if_pos _ (Classical.propDecidable _) h _ _ _
theorem hseR_bad {s : LSt} {r : Rct × Nat} (h : ¬ ∀ a ∈ s.2.2.2.2.2, clrR r.1 a) : hseR p s r = .inl (1 + 8 * p + 5) := @if_neg _ (Classical.propDecidable _) h _ _ _
theorem wrth : ∀ k, k < 512 → nI k &&& (-128) = nI (k / 128 * 128) ∧ (nI k &&& (-1)) = nI k ∧ nI k / 128 * 128 = nI (k / 128 * 128) := by decide +kernel
theorem wrth2 : ∀ q, q < 4 → ∀ w, w < 128 → (q * 128) ||| w = q * 128 + w := by decide +kernel
theorem orB : ∀ k, k < 512 → rng (nI k ||| 128) 0 511 ∧ rng (nI k ||| 256) 0 511 := by
  have : ∀ k, k < 512 → (0 ≤ (nI k ||| 128).toInt ∧ (nI k ||| 128).toInt ≤ 511) ∧ (0 ≤ (nI k ||| 256).toInt ∧ (nI k ||| 256).toInt ≤ 511) := by decide +kernel
  exact this
theorem put_worth {v : Int32} {w : Nat} (hv : rng v 0 511) (hw : w < 100) : (v &&& (-128)) ||| nI w = v / 128 * 128 + nI w ∧ rng (v / 128 * 128 + nI w) 0 511 := by
  obtain ⟨k, hk, rfl⟩ := of_in (n := 512) hv.1 (by have := hv.2; omega)
  obtain ⟨e1, -, e3⟩ := wrth k hk
  rw [e1, e3, nOr (by omega) (by omega), wrth2 (k / 128) (by omega) w (by omega), nA]
  refine ⟨rfl, ?_⟩
  unfold rng
  rw [ti_nI (by omega)]
  omega
theorem put_river {v : Int32} (hv : rng v 0 511) : (v &&& (-1)) ||| 128 = v ||| 128 ∧ rng (v ||| 128) 0 511 ∧ rng (v ||| 256) 0 511 := by
  obtain ⟨k, hk, rfl⟩ := of_in (n := 512) hv.1 (by have := hv.2; omega)
  rw [(wrth k hk).2.1]
  exact ⟨rfl, orB k hk⟩
theorem clsL_inr {s t : LSt} {c : Nat} (S : LsP B n s) (h : clsL B n s c = .inr t) : LsP B n t ∧ c < 24 := by
  obtain ⟨s1, s2, s3, s4, s5, s6, s7⟩ := S
  have n1 := (at_nx (B := B) s1.1).1
  unfold clsL at h
  by_cases c1 : kdT B n s.1 = 1 ∧ (vlT B n s.1 = 20 ∨ vlT B n s.1 = 22 ∨ vlT B n s.1 = 4 ∨ vlT B n s.1 = 6 ∨ vlT B n s.1 = 21)
  · rw [if_neg (fun q => q c1)] at h
    by_cases c2 : 24 ≤ c ∨ (vlT B n s.1 = 20 ∧ s.2.2.2.1 = true) ∨ (vlT B n s.1 = 22 ∧ 6 ≤ s.2.2.2.2.2.length)
    · rw [if_pos c2] at h
      cases h
    · rw [if_neg c2] at h
      refine ⟨?_, by omega⟩
      by_cases k1 : vlT B n s.1 = 20
      · rw [if_pos k1] at h
        obtain ⟨a, e1, h⟩ := sbind_inr h
        obtain ⟨b, e2, h⟩ := sbind_inr h
        have i1 := numR_inr n1 (v := a.1) (q := a.2) e1
        have i2 := numR_inr i1.2.2.1 (v := b.1) (q := b.2) e2
        obtain rfl := Sum.inr.inj h
        exact ⟨i2.2.2, ⟨i1.1, i1.2.1⟩, ⟨i2.1, i2.2.1⟩, s4, s5, s6, s7⟩
      · rw [if_neg k1] at h
        by_cases k2 : vlT B n s.1 = 22
        · rw [if_pos k2] at h
          obtain ⟨r, e1, h⟩ := sbind_inr h
          obtain ⟨i1, i2⟩ := areaR_inr n1 (r := r.1) (q := r.2) e1
          by_cases cl : ∀ a ∈ s.2.2.2.2.2, clrR r.1 a
          · rw [hseR_ok cl] at h
            obtain rfl := Sum.inr.inj h
            refine ⟨i2, s2, s3, s4, ?_, ?_, ?_⟩
            · simp only [List.length_append, List.length_cons, List.length_nil]
              have : ¬ 6 ≤ s.2.2.2.2.2.length := fun q => c2 (Or.inr (Or.inr ⟨k2, q⟩))
              omega
            · intro a ha
              simp only [List.mem_append, List.mem_singleton] at ha
              rcases ha with ha | ha
              · exact s6 a ha
              · rw [ha]
                exact i1
            · intro i j a b ha hb hne
              have sy : ∀ x y : Rct, clrR x y → clrR y x := fun x y q => by unfold clrR at *; omega
              simp only [List.getElem?_append] at ha hb
              by_cases hi : i < s.2.2.2.2.2.length
              · rw [if_pos hi] at ha
                by_cases hj : j < s.2.2.2.2.2.length
                · rw [if_pos hj] at hb
                  exact s7 i j a b ha hb hne
                · rw [if_neg hj] at hb
                  have : b = r.1 := by
                    rw [List.getElem?_singleton] at hb
                    split at hb
                    · exact (Option.some.inj hb).symm
                    · cases hb
                  rw [this]
                  exact sy _ _ (cl a (List.mem_of_getElem? ha))
              · rw [if_neg hi] at ha
                rw [List.getElem?_singleton] at ha
                split at ha
                · rename_i hi2
                  obtain rfl := Option.some.inj ha
                  by_cases hj : j < s.2.2.2.2.2.length
                  · rw [if_pos hj] at hb
                    exact cl b (List.mem_of_getElem? hb)
                  · rw [if_neg hj, List.getElem?_singleton] at hb
                    split at hb
                    · omega
                    · cases hb
                · cases ha
          · rw [hseR_bad cl] at h
            cases h
        · rw [if_neg k2] at h
          by_cases k3 : vlT B n s.1 = 4
          · rw [if_pos k3] at h
            obtain ⟨a, e1, h⟩ := sbind_inr h
            obtain ⟨r, e2, h⟩ := sbind_inr h
            have i1 := numR_inr n1 (v := a.1) (q := a.2) e1
            obtain ⟨i2, i3⟩ := areaR_inr i1.2.2.1 (r := r.1) (q := r.2) e2
            obtain rfl := Sum.inr.inj h
            refine ⟨i3, s2, s3, fun c => ?_, s5, s6, s7⟩
            show rng (mrk r.1 _ s.2.2.2.2.1 c) 0 511
            by_cases ic : inRc r.1 c
            · rw [mrk_yes ic]
              exact (put_worth (s4 c) (by omega)).2
            · rw [mrk_no ic]
              exact s4 c
          · rw [if_neg k3] at h
            by_cases k4 : vlT B n s.1 = 6
            · rw [if_pos k4] at h
              obtain ⟨r, e2, h⟩ := sbind_inr h
              obtain ⟨i2, i3⟩ := areaR_inr n1 (r := r.1) (q := r.2) e2
              obtain rfl := Sum.inr.inj h
              refine ⟨i3, s2, s3, fun c => ?_, s5, s6, s7⟩
              show rng (mrk r.1 _ s.2.2.2.2.1 c) 0 511
              by_cases ic : inRc r.1 c
              · rw [mrk_yes ic]
                exact (put_river (s4 c)).2.1
              · rw [mrk_no ic]
                exact s4 c
            · rw [if_neg k4] at h
              obtain ⟨a, e1, h⟩ := sbind_inr h
              obtain ⟨b, e2, h⟩ := sbind_inr h
              have i1 := numR_inr n1 (v := a.1) (q := a.2) e1
              have i2 := numR_inr i1.2.2.1 (v := b.1) (q := b.2) e2
              obtain rfl := Sum.inr.inj h
              refine ⟨i2.2.2, s2, s3, fun c => ?_, s5, s6, s7⟩
              show rng (if c = 40 * b.1 + a.1 then s.2.2.2.2.1 c ||| 256 else s.2.2.2.2.1 c) 0 511
              split
              · exact (put_river (s4 c)).2.2
              · exact s4 c
  · rw [if_pos c1] at h
    cases h
theorem ldF_inr : ∀ {k : Nat} {s t : LSt} {c : Nat}, LsP B n s → ldF B n k s c = .inr t → LsP B n t ∧ kdT B n t.1 = 0
  | 0, _, _, _, _, h => by cases h
  | k + 1, s, t, c, S, h => by
    unfold ldF at h
    obtain ⟨u, e, h⟩ := sbind_inr h
    have U := (clsL_inr S e).1
    by_cases k0 : kdT B n u.1 = 0
    · rw [if_pos k0] at h
      obtain rfl := Sum.inr.inj h
      exact ⟨U, k0⟩
    · rw [if_neg k0] at h
      by_cases k1 : kdT B n u.1 = 3 ∧ vlT B n u.1 = 59
      · rw [if_pos k1] at h
        exact ldF_inr (s := (nxP B n u.1, u.2)) ⟨at_nx U.1.1, U.2⟩ h
      · rw [if_neg k1] at h
        cases h
theorem ls0_p (B : Nat → Int32) (n : Nat) : LsP B n (LS0 B n) := by
  refine ⟨at_skp (Nat.zero_le _), by show 5 ≤ 20 ∧ 20 ≤ 40; omega, by show 5 ≤ 20 ∧ 20 ≤ 40; omega, fun c => ?_, Nat.zero_le _, fun a ha => absurd ha List.not_mem_nil, fun i j a b ha => ?_⟩
  · show rng 1 0 511
    unfold rng
    rw [show (1 : Int32).toInt = 1 from rfl]
    omega
  · have ha' : ([] : List Rct)[i]? = some a := ha
    simp at ha'
end LP
