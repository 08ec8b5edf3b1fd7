/-! ===== the reference: fit, clear, words ===== -/
section RF
variable {G : GG} {d : Nat} {h : HP} {y : Nat} {Q : Option Value → HP → Prop}
/-- coordinates in the land -/
def inL (x : Int32) : Prop := 0 ≤ x.toInt ∧ x.toInt ≤ 40
theorem r_hasThing (hd : 2 ≤ d) (M : MdSh G h y) {x z tx tz : Int32} {a t : Nat} {ob : Option Nat} (T : ThW h y x z tx tz a ob) (hx : inL x) (hz : inL z) (htx : inL tx) (htz : inL tz) (ht : t < 54) (g : ∀ k, 1 ≤ k → k ≤ 4 → inL (tS (said h y) t k)) {far : Int64} (h0 : ¬ far.toInt ≤ gapA (tS (said h y)) x z tx tz t → Q (some (.int 0)) h) (h1 : far.toInt ≤ gapA (tS (said h y)) x z tx tz t → Q (some (.int 1)) h) : Cal G d mX12_hasThing [.ref y, .int (nI t), .long far] h Q := by
  obtain ⟨⟨t1, t2, t3, t4⟩, -, -⟩ := T
  unfold inL at *
  have g1 := g 1 (by omega) (by omega)
  have g2 := g 2 (by omega) (by omega)
  have g3 := g 3 (by omega) (by omega)
  have g4 := g 4 (by omega) (by omega)
  have s1 : ((tS (said h y) t 1 - x).toInt64).toInt = (tS (said h y) t 1).toInt - x.toInt := by rw [ti64]; exact ti_sub (by omega) (by omega)
  have s2 : ((tS (said h y) t 2 - z).toInt64).toInt = (tS (said h y) t 2).toInt - z.toInt := by rw [ti64]; exact ti_sub (by omega) (by omega)
  have s3 : ((tx - tS (said h y) t 3).toInt64).toInt = tx.toInt - (tS (said h y) t 3).toInt := by rw [ti64]; exact ti_sub (by omega) (by omega)
  have s4 : ((tz - tS (said h y) t 4).toInt64).toInt = tz.toInt - (tS (said h y) t 4).toInt := by rw [ti64]; exact ti_sub (by omega) (by omega)
  unfold gapA at h0 h1
  refine e_X12_hasThing (by omega) ⟨M.1, r_of (k := 1) (by omega) M (ti_nI (by omega)) ht rfl (by omega) ⟨_, rfl, ?_⟩⟩
  rw [t1, sd_tS, lgc_lt, s1]
  refine ⟨fun c => h0 (by omega), fun c => r_of (k := 2) (by omega) M (ti_nI (by omega)) ht rfl (by omega) ⟨_, rfl, ?_⟩⟩
  rw [t2, t3, sd_tS, lgc_lt, s2]
  refine ⟨fun c2 => h0 (by omega), fun c2 => r_of (k := 3) (by omega) M (ti_nI (by omega)) ht rfl (by omega) ⟨_, rfl, ?_⟩⟩
  rw [t4, sd_tS, lgc_lt, s3]
  refine ⟨fun c3 => h0 (by omega), fun c3 => r_of (k := 4) (by omega) M (ti_nI (by omega)) ht rfl (by omega) ⟨_, rfl, ?_⟩⟩
  rw [sd_tS, lgc_lt, s4]
  exact ⟨fun c4 => h0 (by omega), fun c4 => h1 (by omega)⟩
theorem WfR.geoL {S : Nat → Int32} (W : WfR S) {t : Nat} (ht : t < 54) (w : tS S t 0 = 1) : ∀ k, 1 ≤ k → k ≤ 4 → inL (tS S t k) := by
  have g := W.2.2.2.1.1 t ht w
  have d := W.1
  unfold rng at d
  unfold geo at g
  intro k h1 h4
  unfold inL
  have : k = 1 ∨ k = 2 ∨ k = 3 ∨ k = 4 := by omega
  rcases this with rfl | rfl | rfl | rfl <;> omega
theorem onI_some {b : Nat} : onI (some b) = nI b := rfl
theorem r_isFit (hd : 3 ≤ d) (M : MdSh G h y) (W : WfR (said h y)) {x z tx tz : Int32} {a : Nat} {ob : Option Nat} (T : ThW h y x z tx tz a ob) (ha : a < 54) (wa : tS (said h y) a 0 = 1) (wb : thereO (said h y) ob) (h0 : ¬ fitP (said h y) x z tx tz a ob → Q (some (.int 0)) h) (h1 : fitP (said h y) x z tx tz a ob → Q (some (.int 1)) h) : Cal G d mX12_isFit [.ref y] h Q := by
  have T' := T
  obtain ⟨⟨t1, t2, t3, t4⟩, t5, t6⟩ := T'
  obtain ⟨m1, m2, m3⟩ := M.sd
  have z0 : (0 : Int32).toInt = 0 := rfl
  have dd := W.1
  unfold rng at dd
  unfold fitP hldP at h0 h1
  have e0 : hI h (y + 13) 0 = said h y 0 := rfl
  have e1 : hI h (y + 13) 1 = said h y 1 := rfl
  refine e_X12_isFit (by omega) ⟨M.1, ?_⟩
  rw [t1, t2, t3, t4]
  refine ⟨fun c => h0 (fun q => ?_), fun c1 => ⟨fun c => h0 (fun q => ?_), fun c2 => ⟨y + 13, m1, m2, vin_nI (k := 0) (by omega) (by omega), ?_⟩⟩⟩
  · rw [ti_lt, z0] at c; omega
  · rw [ti_lt, z0] at c; omega
  rw [e0, e1]
  refine ⟨fun c => h0 (fun q => ?_), fun c3 => ⟨vin_nI (k := 1) (by omega) (by omega), fun c => h0 (fun q => ?_), fun c4 => ⟨fun c => h0 (fun q => ?_), fun c5 => ⟨fun c6 => ?_, fun c => h0 (fun q => ?_)⟩⟩⟩⟩
  · rw [ti_lt] at c; omega
  · rw [ti_lt] at c; omega
  · rw [ti_le] at c; omega
  · rw [ti_lt, z0] at c1 c2
    rw [ti_lt] at c3 c4 c6
    rw [ti_le] at c5
    have lx : inL x := by unfold inL; omega
    have lz : inL z := by unfold inL; omega
    have ltx : inL tx := by unfold inL; omega
    have ltz : inL tz := by unfold inL; omega
    rw [t5, t6]
    have fin : tS (said h y) a 6 = -1 → (∀ b, ob = some b → b ≠ a ∧ tS (said h y) b 6 = -1) → Ex G d mX12_isFit 107 [(0, .ref y)] [] h Q := by
      intro o1 o2
      refine t_X12_isFit_107 (by omega) ⟨M.1, ?_⟩
      rw [t5]
      have y0 : (0 : Int64).toInt = 0 := by simp
      refine r_hasThing (by omega) M T lx lz ltx ltz ha (W.geoL ha wa) (fun c => ⟨_, rfl, fun _ => h0 (fun q => c (by rw [y0]; exact q.2.2.2.1)), fun q => absurd rfl q⟩) (fun c => ⟨_, rfl, fun q => absurd q (by decide), fun _ => ?_⟩)
      rw [y0] at c
      rw [t6]
      cases ob with
      | none =>
        refine ⟨fun _ => h1 ⟨⟨⟨?_, ?_, ?_⟩, ?_, ?_, ?_⟩, o1, o2, c, fun b q => (by cases q)⟩, fun q => absurd rfl q⟩
        all_goals omega
      | some b =>
        have hb := wb b rfl
        refine ⟨fun q => absurd q (nI_ne_neg (by omega)), fun _ => r_hasThing (by omega) M T lx lz ltx ltz hb.1 (W.geoL hb.1 hb.2) (fun c' => ⟨_, rfl, fun _ => h0 (fun q => c' (by rw [y0]; exact q.2.2.2.2 b rfl)), fun q => absurd rfl q⟩) (fun c' => ⟨_, rfl, fun q => absurd q (by decide), fun _ => h1 ⟨⟨⟨?_, ?_, ?_⟩, ?_, ?_, ?_⟩, o1, o2, c, fun b' q => ?_⟩⟩)⟩
        · omega
        · omega
        · omega
        · omega
        · omega
        · omega
        · obtain rfl : b = b' := Option.some.inj q
          rw [y0] at c'
          exact c'
    refine ⟨fun c => h0 (fun q => ?_), fun ne => r_isOuter (t := a) (by omega) M (ti_nI (by omega)) ha ⟨_, rfl, fun c => h0 (fun q => ?_), fun o1 => ?_⟩⟩
    · cases ob with
      | none => exact absurd c (nI_ne_neg (by omega))
      | some b =>
        have := (wb b rfl).1
        exact (q.2.2.1 b rfl).1 ((nI_eq_iff (by omega) (by omega)).mp c).symm
    · exact if10.mp c q.2.1
    · have o1 : tS (said h y) a 6 = -1 := Decidable.not_not.mp (fun z => o1 (if10.mpr z))
      rw [t6]
      cases ob with
      | none => exact ⟨fun _ => fin o1 (fun b q => by cases q), fun q => absurd rfl q⟩
      | some b =>
        have hb := wb b rfl
        refine ⟨fun q => absurd q (nI_ne_neg (by omega)), fun _ => r_isOuter (t := b) (by omega) M (ti_nI (by omega)) hb.1 ⟨_, rfl, fun o2 => fin o1 (fun b' q => ?_), fun c => h0 (fun q => ?_)⟩⟩
        · obtain rfl : b = b' := Option.some.inj q
          exact ⟨fun e => ne (by rw [e]; rfl), Decidable.not_not.mp (fun z => o2 (if10.mpr z))⟩
        · exact if10.mp c (q.2.2.1 b rfl).2
  · rw [ti_lt] at c; omega
theorem r_isClear (hd : 3 ≤ d) (M : MdSh G h y) {x z tx tz : Int32} {a : Nat} {ob : Option Nat} (T : ThW h y x z tx tz a ob) (ha : a < 54) (hb : ∀ b, ob = some b → b < 54) (h0 : ¬ clrP (said h y) x z tx tz a ob → Q (some (.int 0)) h) (h1 : clrP (said h y) x z tx tz a ob → Q (some (.int 1)) h) : Cal G d mX12_isClear [.ref y] h Q := by
  obtain ⟨⟨t1, t2, t3, t4⟩, t5, t6⟩ := T
  refine e_X12_isClear ?_
  unfold T_X12_isClear
  have loop : ∀ n i, i + n = 54 → (∀ t, t < i → tS (said h y) t 0 = 1 → tS (said h y) t 6 = -1 → t ≠ a → ob ≠ some t → (tx.toInt < (tS (said h y) t 1).toInt ∨ (tS (said h y) t 3).toInt < x.toInt ∨ tz.toInt < (tS (said h y) t 2).toInt ∨ (tS (said h y) t 4).toInt < z.toInt)) → Ex G d mX12_isClear 2 [(0, .ref y), (1, .int (nI i))] [] h Q := by
    intro n
    induction n with
    | zero =>
      intro i hi V
      obtain rfl : i = 54 := by omega
      exact t_X12_isClear_2 (by omega) ⟨fun _ => h1 V, fun q => absurd (show (54 : Int32) ≤ nI 54 by decide) q⟩
    | succ n ih =>
      intro i hi V
      have next : (tS (said h y) i 0 = 1 → tS (said h y) i 6 = -1 → i ≠ a → ob ≠ some i → (tx.toInt < (tS (said h y) i 1).toInt ∨ (tS (said h y) i 3).toInt < x.toInt ∨ tz.toInt < (tS (said h y) i 2).toInt ∨ (tS (said h y) i 4).toInt < z.toInt)) → Ex G d mX12_isClear 2 [(0, .ref y), (1, .int (nI i + 1))] [] h Q := fun c => by
        rw [nI_S]
        refine ih (i + 1) (by omega) (fun t ht => ?_)
        by_cases e : t = i
        · rw [e]; exact c
        · exact V t (by omega)
      refine t_X12_isClear_2 (by omega) ⟨fun q => absurd q (n54_not (by omega)), fun _ => ⟨M.1, r_of (t := i) (k := 0) (by omega) M (ti_nI (by omega)) (by omega) rfl (by omega) ⟨_, rfl, fun c => next (fun q => absurd q c), fun w => r_isOuter (t := i) (by omega) M (ti_nI (by omega)) (by omega) ⟨_, rfl, fun c => next (fun _ q => absurd q (if10.mp c)), fun o => ?_⟩⟩⟩⟩
      have o : tS (said h y) i 6 = -1 := Decidable.not_not.mp (fun z => o (if10.mpr z))
      rw [t5, t6, t1, t2, t3, t4]
      refine ⟨fun c => next (fun _ _ q => absurd ((nI_eq_iff (by omega) (by omega)).mp c) q), fun n1 => ⟨fun c => next (fun _ _ _ q => ?_), fun n2 => ?_⟩⟩
      · cases ob with
        | none => exact absurd c (nI_ne_neg (by omega))
        | some b =>
          have := hb b rfl
          exact absurd (by rw [(nI_eq_iff (a := i) (b := b) (by omega) (by omega)).mp c]) q
      · have na : i ≠ a := fun q => n1 (by rw [q])
        have nb : ob ≠ some i := fun q => n2 (by rw [q]; rfl)
        refine r_of (t := i) (k := 1) (by omega) M (ti_nI (by omega)) (by omega) rfl (by omega) ⟨_, rfl, r_of (t := i) (k := 2) (by omega) M (ti_nI (by omega)) (by omega) rfl (by omega) ⟨_, rfl, r_of (t := i) (k := 3) (by omega) M (ti_nI (by omega)) (by omega) rfl (by omega) ⟨_, rfl, r_of (t := i) (k := 4) (by omega) M (ti_nI (by omega)) (by omega) rfl (by omega) ⟨_, rfl, ?_⟩⟩⟩⟩
        have yes : (tx.toInt < (tS (said h y) i 1).toInt ∨ (tS (said h y) i 3).toInt < x.toInt ∨ tz.toInt < (tS (said h y) i 2).toInt ∨ (tS (said h y) i 4).toInt < z.toInt) → ∃ v34, some (Value.int 1) = some (Value.int v34) ∧ ((¬ v34 = 0 → Ex G d mX12_isClear 2 [(0, .ref y), (1, .int (nI i + 1))] [] h Q) ∧ (v34 = 0 → Q (some (.int 0)) h)) := fun q => ⟨_, rfl, fun _ => next (fun _ _ _ _ => q), fun q => absurd q (by decide)⟩
        refine e_X12_areClear ⟨fun c => yes (Or.inl (ti_lt.mp c)), fun k1 => ⟨fun c => yes (Or.inr (Or.inl (ti_lt.mp c))), fun k2 => ⟨fun c => yes (Or.inr (Or.inr (Or.inl (ti_lt.mp c)))), fun k3 => ⟨fun c => ⟨_, rfl, fun q => absurd rfl q, fun _ => h0 (fun V2 => ?_)⟩, fun c => yes (Or.inr (Or.inr (Or.inr ?_)))⟩⟩⟩⟩
        · rw [ti_lt, sd_tS] at k1 k2 k3
          rw [ti_le, sd_tS] at c
          have := V2 i (by omega) w o na nb
          omega
        · rw [ti_le, sd_tS] at c
          omega
  exact loop 54 0 rfl (fun t ht => by omega)
end RF
