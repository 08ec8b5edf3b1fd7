/-! ===== a text, as it is read: clauses, pure ===== -/
/-- place, values made, clauses, whether walls join -/
abbrev TSt : Type := Nat × Nat × List Cla × Option Nat
def kwT (B : Nat → Int32) (n : Nat) (wish : Bool) (p : Nat) : Prop := kdT B n p = 1 ∧ ((wish = true ∧ vlT B n p = 16) ∨ (wish = false ∧ (vlT B n p = 12 ∨ vlT B n p = 13 ∨ vlT B n p = 14 ∨ vlT B n p = 15)))
noncomputable def claR (B : Nat → Int32) (n k : Nat) (wish : Bool) (s : TSt) : Nat ⊕ TSt :=
  @ite _ (kwT B n wish s.1) (Classical.propDecidable _)
    (if 12 ≤ s.2.2.1.length ∨ (vlT B n s.1 = 15 ∧ s.2.2.2 ≠ none) then .inl (1 + 8 * s.1 + 4)
    else if vlT B n s.1 = 15 then sbind (numR B n (nxP B n s.1) 0 1) (fun a => .inr (a.2, s.2.1, s.2.2.1 ++ [(15, [], none)], some a.1))
    else if vlT B n s.1 = 13 ∨ vlT B n s.1 = 14 then sbind (tsR B n k (nxP B n s.1) s.2.1) (fun r => .inr (r.1, r.2.1, s.2.2.1 ++ [((vlT B n s.1).toInt.toNat, [], some r.2.2)], s.2.2.2))
    else sbind (suR B n k (nxP B n s.1) s.2.1) (fun a => if kdT B n a.1 = 1 ∧ vlT B n a.1 = 17 then sbind (tsR B n k (nxP B n a.1) a.2.1) (fun r => .inr (r.1, r.2.1, s.2.2.1 ++ [((vlT B n s.1).toInt.toNat, a.2.2, some r.2.2)], s.2.2.2)) else .inr (a.1, a.2.1, s.2.2.1 ++ [((vlT B n s.1).toInt.toNat, a.2.2, none)], s.2.2.2)))
    (.inl (1 + 8 * s.1 + 0))
noncomputable def txF (B : Nat → Int32) (n k : Nat) (wish : Bool) : Nat → TSt → Nat ⊕ TSt
  | 0, _ => .inl 0
  | f + 1, s => sbind (claR B n k wish s) (fun t => if kdT B n t.1 = 0 then .inr t else if kdT B n t.1 = 3 ∧ vlT B n t.1 = 59 then txF B n k wish f (nxP B n t.1, t.2) else .inl (1 + 8 * t.1 + 0))
def TS0 (B : Nat → Int32) (n : Nat) : TSt := (skp B n 0, 0, [], none)
/-- signs of a clause -/
def claL (q : Cla) : Nat := q.2.1.length + (match q.2.2 with | none => 0 | some l => l.length)
def clsN : List Cla → Nat
  | [] => 0
  | q :: C => claL q + clsN C
def TsP (B : Nat → Int32) (n : Nat) (wish : Bool) (s : TSt) : Prop := At B n s.1 ∧ s.2.1 ≤ 60 ∧ s.2.2.1.length ≤ 12 ∧ clsN s.2.2.1 ≤ s.1 ∧ (∀ q ∈ s.2.2.1, ClaP q ∧ (wish = false → q.1 ≠ 16) ∧ (wish = true → q.1 = 16)) ∧ ∀ v, s.2.2.2 = some v → v ≤ 1
section TH
variable {B : Nat → Int32} {n k : Nat} {wish : Bool}
theorem clsN_app (C : List Cla) (q : Cla) : clsN (C ++ [q]) = clsN C + claL q := by
  induction C with
  | nil => show claL q + 0 = 0 + claL q; omega
  | cons a C ih =>
    show claL a + clsN (C ++ [q]) = claL a + clsN C + claL q
    omega
theorem TsP.add {s : TSt} {p m : Nat} {q : Cla} {jn : Option Nat} (S : TsP B n wish s) (ha : At B n p) (hm : m ≤ 60) (hl : s.2.2.1.length < 12) (hn : s.1 + claL q ≤ p) (hq : ClaP q ∧ (wish = false → q.1 ≠ 16) ∧ (wish = true → q.1 = 16)) (hj : ∀ v, jn = some v → v ≤ 1) : TsP B n wish (p, m, s.2.2.1 ++ [q], jn) := by
  refine ⟨ha, hm, ?_, ?_, fun q' h' => ?_, hj⟩
  · show (s.2.2.1 ++ [q]).length ≤ 12
    rw [List.length_append]
    show _ + 1 ≤ 12
    omega
  · show clsN (s.2.2.1 ++ [q]) ≤ p
    rw [clsN_app]
    have := S.2.2.2.1
    omega
  · rcases List.mem_append.mp h' with h' | h'
    · exact S.2.2.2.2.1 q' h'
    · rw [List.mem_singleton.mp h']
      exact hq
end TH
