/-! ===== whether a wall can come: the reference ===== -/
def nN (x : Int32) : Nat := x.toInt.toNat
noncomputable def wdF (S : Nat → Int32) (f : Nat) (x z tx tz : Int32) (a : Nat) (ob : Option Nat) (k : Nat) : Int64 := jI (wI S f (nN x) (nN z) (nN tx) (nN tz) a ob k)
def gap2 (A : Nat → Nat → Int32) (x z tx tz : Int32) (a : Nat) : Option Nat → Int
  | none => gapA A x z tx tz a
  | some b => min (gapA A x z tx tz a) (gapA A x z tx tz b)
def canV (S : Nat → Int32) (D : List Cla) (jn : Prop) (f : Nat) (x z tx tz : Int32) (a : Nat) (ob : Option Nat) : Prop := fitP S x z tx tz a ob ∧ (ob ≠ none → jn) ∧ clrP S x z tx tz a ob ∧ ¬ rivP S (nN x) (nN z) (nN tx) (nN tz) ∧ (farF (wdF S f x z tx tz a ob) D).toInt ≤ gap2 (tS S) x z tx tz a ob ∧ mayF (wdF S f x z tx tz a ob) D false false = true
def CnL (y a : Nat) (_ : Nat) : Prop := a = y + 11 ∨ a = y + 12
/-- a law of the reference -/
def LawR (h : HP) (y t : Nat) (D : List Cla) : Prop := ScrR h y t D ∧ D.length ≤ 12 ∧ t < 12 ∧ ∀ q ∈ D, ClaP q ∧ q.1 ≠ 15
theorem LawR.fr {PL : Nat → Nat → Prop} {h h2 : HP} {y t : Nat} {D : List Cla} (F : FrS (RkI y) PL h h2) (L : LawR h y t D) : LawR h2 y t D := ⟨L.1.fr L.2.1 (fun k _ _ => F.i (by unfold RkI; omega)) (fun k _ _ => F.i (by unfold RkI; omega)) (F.i (by unfold RkI; omega)), L.2⟩
theorem ThW.fr {PL : Nat → Nat → Prop} {h h2 : HP} {y : Nat} {x z tx tz : Int32} {a : Nat} {ob : Option Nat} (F : FrS (RkI y) PL h h2) (T : ThW h y x z tx tz a ob) : ThW h2 y x z tx tz a ob := ⟨⟨(F.i (by unfold RkI; omega)).trans T.1.1, (F.i (by unfold RkI; omega)).trans T.1.2.1, (F.i (by unfold RkI; omega)).trans T.1.2.2.1, (F.i (by unfold RkI; omega)).trans T.1.2.2.2⟩, (F.i (by unfold RkI; omega)).trans T.2.1, (F.i (by unfold RkI; omega)).trans T.2.2⟩
theorem said_fr {PL : Nat → Nat → Prop} {h h2 : HP} {y : Nat} (F : FrS (RkI y) PL h h2) : said h2 y = said h y := funext fun j => F.i (by unfold RkI; omega)
theorem nN_of {x : Int32} (h0 : 0 ≤ x.toInt) : x = nI (nN x) := nI_ti (by unfold nN; omega)
section CR
variable {G : GG} {d : Nat} {h : HP} {y t : Nat} {Q : Option Value → HP → Prop} {D : List Cla}
theorem r_canCome (hd : 6 ≤ d) (M : MdSh G h y) (W : WfR (said h y)) {x z tx tz : Int32} {a f : Nat} {ob : Option Nat} (T : ThW h y x z tx tz a ob) (hf : f < 12) (ha : a < 54) (wa : tS (said h y) a 0 = 1) (wb : thereO (said h y) ob) (L : LawR h y t D) (h16 : ∀ q ∈ D, q.1 ≠ 16) (hQ : ∀ h2 v, FrS (RkI y) (CnL y) h h2 → (v = 0 ∨ v = 1) → (v = 1 ↔ canV (said h y) D (hI h (y + 7) t = 1) f x z tx tz a ob) → Q (some (.int v)) h2) : Cal G d mX12_canCome [.ref y, .int (nI t), .int (nI f)] h Q := by
  have no : ∀ {h2 : HP}, FrS (RkI y) (CnL y) h h2 → ¬ canV (said h y) D (hI h (y + 7) t = 1) f x z tx tz a ob → Q (some (.int 0)) h2 := fun F n => hQ _ 0 F (Or.inl rfl) ⟨fun q => absurd q (by decide), fun q => absurd q n⟩
  have F0 := frS_rf (RkI y) (CnL y) h
  have ht := L.2.2.1
  have dd := W.1
  unfold rng at dd
  refine e_X12_canCome (by omega) ⟨M.1, r_isFit (by omega) M W T ha wa wb (fun c => ⟨_, rfl, fun _ => no F0 (fun q => c q.1), fun q => absurd rfl q⟩) (fun fit => ⟨_, rfl, fun q => absurd q (by decide), fun _ => ?_⟩)⟩
  have fit' := fit
  obtain ⟨hl, o1, o2, g1, g2⟩ := fit'
  unfold hldP at hl
  have ex := nN_of (x := x) hl.1.1
  have ez := nN_of (x := z) hl.2.1
  have etx := nN_of (x := tx) (by omega)
  have etz := nN_of (x := tz) (by omega)
  have tx_ : (tx.toInt) = (nN tx : Int) := by unfold nN; omega
  have tz_ : (tz.toInt) = (nN tz : Int) := by unfold nN; omega
  have x_ : (x.toInt) = (nN x : Int) := by unfold nN; omega
  have z_ : (z.toInt) = (nN z : Int) := by unfold nN; omega
  have TN : ThW h y (nI (nN x)) (nI (nN z)) (nI (nN tx)) (nI (nN tz)) a ob := by
    rw [← ex, ← ez, ← etx, ← etz]; exact T
  have lx : inL x := by unfold inL; omega
  have lz : inL z := by unfold inL; omega
  have ltx : inL tx := by unfold inL; omega
  have ltz : inL tz := by unfold inL; omega
  have go : (ob ≠ none → hI h (y + 7) t = 1) → Ex G d mX12_canCome 27 [(0, .ref y), (1, .int (nI t)), (2, .int (nI f))] [] h Q := by
    intro jn
    refine t_X12_canCome_27 (by omega) ⟨M.1, r_isClear (by omega) M T ha (fun b q => (wb b q).1) (fun c => ⟨_, rfl, fun _ => no F0 (fun q => c q.2.2.1), fun q => absurd rfl q⟩) (fun clr => ⟨_, rfl, fun q => absurd q (by decide), fun _ => r_goes (by omega) M W TN (by omega) (by omega) (by omega) (by omega) (fun nr => ⟨_, rfl, fun _ => ?_, fun q => absurd rfl q⟩) (fun c => ⟨_, rfl, fun q => absurd q (by decide), fun _ => no F0 (fun q => q.2.2.2.1 c)⟩)⟩)⟩
    refine r_wordsFor (by omega) M W TN hf ha wa wb (by omega) (by omega) (by omega) (by omega) (fun h1 Fw Vw => ⟨rfl, ?_⟩)
    have F1 : FrS (RkI y) (CnL y) h h1 := Fw.weak (fun _ _ q => q.elim) (fun _ _ q => Or.inr q)
    have R1 : ScrV G h1 y t (wdF (said h y) f x z tx tz a ob) D := ⟨⟨M.fs F1, fun k hk => Vw k hk⟩, (L.fr F1).1, (L.fr F1).2⟩
    refine r_farBy (by omega) R1 h16 (fun h2 F2 => ⟨_, rfl, ?_⟩)
    have F2' : FrS (RkI y) (CnL y) h h2 := F1.tr (F2.weak (fun _ _ q => q) (fun _ _ q => Or.inl q))
    have S2 : said h2 y = said h y := said_fr F2'
    have T2 := T.fr F2'
    rw [T2.2.1]
    refine r_hasThing (by omega) (M.fs F2') T2 lx lz ltx ltz ha (by rw [S2]; exact W.geoL ha wa) (fun c => ⟨_, rfl, fun _ => no F2' (fun q => c ?_), fun q => absurd rfl q⟩) (fun c => ⟨_, rfl, fun q => absurd q (by decide), fun _ => ?_⟩)
    · rw [S2]
      have := q.2.2.2.2.1
      cases ob with
      | none => exact this
      | some b =>
        simp only [gap2] at this
        omega
    · rw [S2] at c
      have may : (farF (wdF (said h y) f x z tx tz a ob) D).toInt ≤ gap2 (tS (said h y)) x z tx tz a ob → Cal G (d - 1) mX12_mayBy [.ref y, .int (nI t)] h2 (fun r25 h26 => ∃ v28, r25 = some (.int v28) ∧ ((v28 = 0 → Q (some (.int 0)) h26) ∧ (¬ v28 = 0 → Q (some (.int 1)) h26))) := by
        intro gg
        refine r_mayBy (by omega) (R1.fr F2) h16 (fun h3 F3 => ⟨_, rfl, fun q => ?_, fun q => ?_⟩)
        · have F3' : FrS (RkI y) (CnL y) h h3 := F2'.tr (F3.weak (fun _ _ q => q) (fun _ _ q => Or.inl q))
          rw [bI0] at q
          exact no F3' (fun z => by have z2 := z.2.2.2.2.2; rw [q] at z2; cases z2)
        · have F3' : FrS (RkI y) (CnL y) h h3 := F2'.tr (F3.weak (fun _ _ q => q) (fun _ _ q => Or.inl q))
          have mt : mayF (wdF (said h y) f x z tx tz a ob) D false false = true := by
            cases m : mayF (wdF (said h y) f x z tx tz a ob) D false false
            · exact absurd (bI0.mpr m) q
            · rfl
          exact hQ h3 1 F3' (Or.inr rfl) ⟨fun _ => ⟨fit, jn, clr, nr, gg, mt⟩, fun _ => rfl⟩
      rw [T2.2.2]
      cases ob with
      | none => exact ⟨fun _ => may c, fun q => absurd rfl q⟩
      | some b =>
        have hb := wb b rfl
        refine ⟨fun q => absurd q (nI_ne_neg (by omega)), fun _ => r_hasThing (by omega) (M.fs F2') T2 lx lz ltx ltz hb.1 (by rw [S2]; exact W.geoL hb.1 hb.2) (fun c2 => ⟨_, rfl, fun _ => no F2' (fun q => c2 ?_), fun q => absurd rfl q⟩) (fun c2 => ⟨_, rfl, fun q => absurd q (by decide), fun _ => may ?_⟩)⟩
        · rw [S2]
          have := q.2.2.2.2.1
          simp only [gap2] at this
          omega
        · rw [S2] at c2
          simp only [gap2]
          omega
  rw [T.2.2]
  cases hob : ob with
  | none => exact ⟨fun _ => go (fun q => absurd hob q), fun q => absurd rfl q⟩
  | some b =>
    obtain ⟨j1, j2, j3⟩ : hR h y 7 = some (y + 7) ∧ Kd G h (y + 7) 14 ∧ hN h (y + 7) = 12 := M.2 (7, 7, 14, 12) (by decide)
    have hb := wb b hob
    refine ⟨fun q => absurd q (nI_ne_neg (by omega)), fun _ => ⟨y + 7, j1, j2, by rw [j3]; exact vin_nI ht (by omega), ?_⟩⟩
    rw [cl_nI (by omega)]
    exact ⟨fun j => go (fun _ => j), fun j => no F0 (fun q => j (q.2.1 (by rw [hob]; simp)))⟩
theorem r_wishOf (hd : 6 ≤ d) (M : MdSh G h y) (W : WfR (said h y)) {x z tx tz : Int32} {a f i : Nat} {ob : Option Nat} (T : ThW h y x z tx tz a ob) (hf : f < 12) (ha : a < 54) (wa : tS (said h y) a 0 = 1) (wb : thereO (said h y) ob) (fit : fitP (said h y) x z tx tz a ob) (hi : i < 6) (L : LawR h y (6 + i) D) (h16 : ∀ q ∈ D, q.1 = 16) (hQ : ∀ h2, FrS (RkI y) (CnL y) h h2 → Q (some (.long (totF (wdF (said h y) f x z tx tz a ob) D 0))) h2) : Cal G d mX12_wishOf [.ref y, .int (nI i), .int (nI f)] h Q := by
  obtain ⟨hl, o1, o2, g1, g2⟩ := fit
  unfold hldP at hl
  have dd := W.1
  unfold rng at dd
  have ex := nN_of (x := x) hl.1.1
  have ez := nN_of (x := z) hl.2.1
  have etx := nN_of (x := tx) (by omega)
  have etz := nN_of (x := tz) (by omega)
  have tx_ : (tx.toInt) = (nN tx : Int) := by unfold nN; omega
  have tz_ : (tz.toInt) = (nN tz : Int) := by unfold nN; omega
  have x_ : (x.toInt) = (nN x : Int) := by unfold nN; omega
  have z_ : (z.toInt) = (nN z : Int) := by unfold nN; omega
  have TN : ThW h y (nI (nN x)) (nI (nN z)) (nI (nN tx)) (nI (nN tz)) a ob := by
    rw [← ex, ← ez, ← etx, ← etz]; exact T
  refine e_X12_wishOf (by omega) ⟨M.1, r_wordsFor (by omega) M W TN hf ha wa wb (by omega) (by omega) (by omega) (by omega) (fun h1 Fw Vw => ⟨rfl, ?_⟩)⟩
  have F1 : FrS (RkI y) (CnL y) h h1 := Fw.weak (fun _ _ q => q.elim) (fun _ _ q => Or.inr q)
  have e6 : 6 + nI i = nI (6 + i) := by
    show nI 6 + nI i = _
    rw [nA]
  rw [e6]
  have R1 : ScrV G h1 y (6 + i) (wdF (said h y) f x z tx tz a ob) D := ⟨⟨M.fs F1, fun k hk => Vw k hk⟩, (L.fr F1).1, (L.fr F1).2⟩
  exact r_wish16 (by omega) R1 h16 (fun h2 F2 => hQ h2 (F1.tr (F2.weak (fun _ _ q => q) (fun _ _ q => Or.inl q))))
end CR
