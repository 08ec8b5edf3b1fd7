/-! ===== pulling down: both sides ===== -/
theorem WF.nos {S : Nat → Int32} (W : WF S) {w : Nat} (hw : w < 30) (w0 : tS S w 0 = 1) : ¬ tS S w 6 = nI w := fun q => by
  have := W.2.2.2.2.noself (by omega) hw w0 1
  rw [q] at this
  simp only [liesF, if_neg (nI_ne_neg (show w < 2147483648 by omega))] at this
  simp at this
theorem n54_not {i : Nat} (h : i < 54) : ¬ (54 : Int32) ≤ nI i := fun q => by
  have := (nI_le_iff (a := 54) (b := i) (by omega) (by omega)).mp q
  omega
theorem n31_not {i : Nat} (h : i < 31) : ¬ (31 : Int32) ≤ nI i := fun q => by
  have := (nI_le_iff (a := 31) (b := i) (by omega) (by omega)).mp q
  omega
theorem r_pulls {G : GG} {d : Nat} {h : HP} {y : Nat} {Q : Option Value → HP → Prop} (hd : 2 ≤ d) (M : MdSh G h y) {w : Nat} (hw : w < 54) (hQ : ∀ h2, FrI (fun a k => a = y + 13 ∧ 1608 ≤ k ∧ k < 2256) h h2 → (∀ u k, u < 54 → k < 12 → tS (said h2 y) u k = pullA (tS (said h y)) w u k) → Q none h2) : Cal G d mX12_pulls [.ref y, .int (nI w)] h Q := by
  refine e_X12_pulls ?_
  unfold T_X12_pulls
  have loop : ∀ n i h1, i + n = 54 → FrI (fun a k => a = y + 13 ∧ 1608 ≤ k ∧ k < 2256) h h1 → (∀ u k, u < 54 → k < 12 → tS (said h1 y) u k = if u < i ∧ k = 6 then pullA (tS (said h y)) w u 6 else tS (said h y) u k) → Ex G d mX12_pulls 2 [(0, .ref y), (1, .int (nI w)), (2, .int (nI i))] [] h1 Q := by
    intro n
    induction n with
    | zero =>
      intro i h1 hi F v
      obtain rfl : i = 54 := by omega
      obtain ⟨m1, m2, m3⟩ := (M.fr F).sd
      have e : 1608 + 12 * nI w = nI (1608 + 12 * w) := by
        show nI 1608 + nI 12 * nI w = _
        rw [nM, nA]
      refine t_X12_pulls_2 (by omega) ⟨fun _ => ⟨(M.fr F).1, y + 13, m1, e_X12_placeOf ⟨_, rfl, m2, by rw [e, m3]; exact vin_nI (by omega) (by omega), ?_⟩⟩, fun q => absurd (show (54 : Int32) ≤ nI 54 by decide) q⟩
      rw [e, cl_nI (by omega)]
      refine hQ _ (F.tr (FrI.sI _ _ ⟨rfl, by omega, by omega⟩)) (fun u k hu hk => ?_)
      have es : tS (said (sI h1 (y + 13) (1608 + 12 * w) 0) y) u k = if u = w ∧ k = 0 then 0 else tS (said h1 y) u k := tS_set h1 y w 0 0 u k (by omega) hk
      rw [es]
      by_cases c : u = w ∧ k = 0
      · rw [if_pos c]
        unfold pullA
        rw [if_pos c]
      · rw [if_neg c, v u k hu hk]
        by_cases c6 : k = 6
        · rw [if_pos ⟨hu, c6⟩, c6]
        · rw [if_neg (fun q => c6 q.2), pullA_ne c6 (by omega)]
    | succ n ih =>
      intro i h1 hi F v
      have M1 := M.fr F
      obtain ⟨m1, m2, m3⟩ := M1.sd
      have same : pullA (tS (said h y)) w i 6 = tS (said h y) i 6 → Ex G d mX12_pulls 2 [(0, .ref y), (1, .int (nI w)), (2, .int (nI i + 1))] [] h1 Q := fun c => by
        rw [nI_S]
        refine ih (i + 1) h1 (by omega) F (fun u k hu hk => ?_)
        rw [v u k hu hk]
        by_cases c1 : u < i ∧ k = 6
        · rw [if_pos c1, if_pos ⟨by omega, c1.2⟩]
        · rw [if_neg c1]
          by_cases c2 : u < i + 1 ∧ k = 6
          · rw [if_pos c2]
            obtain rfl : u = i := by omega
            obtain ⟨-, rfl⟩ := c2
            exact c.symm
          · rw [if_neg c2]
      have r0 : sd h1 y i 0 = tS (said h y) i 0 := (v i 0 (by omega) (by omega)).trans (if_neg (by omega))
      have r6 : sd h1 y i 6 = tS (said h y) i 6 := (v i 6 (by omega) (by omega)).trans (if_neg (by omega))
      have rw6 : sd h1 y w 6 = tS (said h y) w 6 := (v w 6 (by omega) (by omega)).trans (by
        by_cases c : w < i ∧ (6 : Nat) = 6
        · rw [if_pos c]
          unfold pullA
          rw [if_neg (by omega)]
          split <;> rfl
        · rw [if_neg c])
      have e : 1608 + 12 * nI i + 6 = nI (1608 + 12 * i + 6) := by
        show nI 1608 + nI 12 * nI i + nI 6 = _
        rw [nM, nA, nA]
      refine t_X12_pulls_2 (by omega) ⟨fun q => absurd q (n54_not (by omega)), fun _ => ⟨M1.1, r_of (t := i) (k := 0) (by omega) M1 (ti_nI (by omega)) (by omega) rfl (by omega) ⟨_, rfl, fun c => same ?_, fun c => r_of (t := i) (k := 6) (by omega) M1 (ti_nI (by omega)) (by omega) rfl (by omega) ⟨_, rfl, fun c2 => same ?_, fun c2 => ⟨y + 13, m1, e_X12_placeOf ⟨_, rfl, r_of (t := w) (k := 6) (by omega) M1 (ti_nI (by omega)) (by omega) rfl (by omega) ⟨_, rfl, m2, by rw [e, m3]; exact vin_nI (by omega) (by omega), ?_⟩⟩⟩⟩⟩⟩⟩
      · rw [r0] at c
        unfold pullA
        rw [if_neg (by omega), if_neg (fun q => c q.2.1)]
      · rw [r6] at c2
        unfold pullA
        rw [if_neg (by omega), if_neg (fun q => c2 q.2.2)]
      · rw [r0] at c
        rw [r6] at c2
        rw [e, cl_nI (by omega), rw6, nI_S]
        refine ih (i + 1) _ (by omega) (F.tr (FrI.sI _ _ ⟨rfl, by omega, by omega⟩)) (fun u k hu hk => ?_)
        rw [tS_set _ _ _ _ _ _ _ (by omega) hk, v u k hu hk]
        by_cases c1 : u = i ∧ k = 6
        · rw [if_pos c1, if_pos ⟨by omega, c1.2⟩]
          obtain ⟨rfl, -⟩ := c1
          rw [pullA_6 c]
          unfold prm
          rw [if_pos c2]
        · rw [if_neg c1]
          by_cases c3 : u < i ∧ k = 6
          · rw [if_pos c3, if_pos ⟨by omega, c3.2⟩]
          · rw [if_neg c3, if_neg (by omega)]
  exact loop 54 0 h rfl (FrI.rf _ h) (fun u k _ _ => (if_neg (by omega)).symm)
section RM
variable {G : GG} {d : Nat} {s : Nat} {Q : Option Value → HP → Prop}
theorem s_remove74 {x1 x2 : Int32} (A : Nat → Nat → Int32) : ∀ (n : Nat) (h : HP) (p : Int32) (i : Nat), i + n ≤ 30 → StSh G h s → (∀ r, r < 31 → tg h s r 6 = A r 6) → endsF A 31 n p → (∀ r, r < 31 → liesF A (nI r) 31 p = true → liesF A (nI r) 31 (A r 6) = false) → (∀ h2, FrI (fun a k => s + 5 ≤ a ∧ a ≤ s + 35 ∧ k = 7) h h2 → (∀ r, r < 31 → tg h2 s r 7 = if liesF A (nI r) 31 p = true then tg h s r 7 - 1 else tg h s r 7) → Q none h2) → Ex G d mX6_remove 74 [(0, .ref s), (1, .int x1), (2, .int x2), (3, .int p), (4, .int (nI i))] [] h Q := by
  intro n
  induction n with
  | zero =>
    intro h p i hi S hA he hac hQ
    obtain rfl : p = -1 := he
    refine t_X6_remove_74 ⟨fun q => absurd q (n31_not (by omega)), fun _ => ⟨fun _ => hQ h (FrI.rf _ h) (fun r hr => ?_), fun q => absurd rfl q⟩⟩
    rw [if_neg (by simp [liesF])]
  | succ n ih =>
    intro h p i hi S hA he hac hQ
    refine t_X6_remove_74 ⟨fun q => absurd q (n31_not (by omega)), fun _ => ⟨fun q => ?_, fun q => ?_⟩⟩
    · subst q
      refine hQ h (FrI.rf _ h) (fun r hr => ?_)
      rw [if_neg (by simp [liesF])]
    · rcases he with he | ⟨r0, rfl, h1, h2⟩
      · exact absurd he q
      · have k9 := (S.2.2.2.2.2.2.1 r0 (by omega)).2
        refine th_at S (t := r0) (ti_nI (by omega)) h1 ?_
        have F : FrI (fun a k => s + 5 ≤ a ∧ a ≤ s + 35 ∧ k = 7) h (sI h (s + 5 + r0) 7 (hI h (s + 5 + r0) 7 - 1)) := FrI.sI _ _ ⟨by omega, by omega, rfl⟩
        have S2 := S.fr F
        refine th_in S2 (x := nI r0) (t := r0) (ti_nI (by omega)) h1 (P := fun q12 => Ex G d mX6_remove 74 [(0, .ref s), (1, .int x1), (2, .int x2), (3, .int (hI (sI h (s + 5 + r0) 7 (hI h (s + 5 + r0) 7 - 1)) q12 6)), (4, .int (nI i + 1))] [] (sI h (s + 5 + r0) 7 (hI h (s + 5 + r0) 7 - 1)) Q) ?_
        rw [hI_ne _ _ (Or.inr (by omega)), show hI h (s + 5 + r0) 6 = A r0 6 from hA r0 h1, nI_S]
        have st : ∀ o : Int32, liesF A o 31 (nI r0) = if nI r0 = o then true else liesF A o 31 (A r0 6) := fun o => by
          have e : liesF A o 31 (nI r0) = if nI r0 = -1 then false else if nI r0 = o then true else liesF A o 30 (A (nI r0).toNatClampNeg 6) := rfl
          rw [e, if_neg (nI_ne_neg (by omega)), cl_nI (by omega), liesF_fuel (A := A) (b := 31) (by omega) o n 30 31 (A r0 6) h2 (by omega) (by omega)]
        have z0 : liesF A (nI r0) 31 (A r0 6) = false := hac r0 h1 (by rw [st, if_pos rfl])
        refine ih _ (A r0 6) (i + 1) (by omega) S2 (fun r hr => ?_) h2 (fun r hr hl => hac r hr ?_) (fun h3 F3 v3 => hQ h3 (F.tr F3) (fun r hr => ?_))
        · rw [tg_set, if_neg (by omega)]
          exact hA r hr
        · rw [st]
          split
          · rfl
          · exact hl
        · rw [v3 r hr, st, tg_set]
          by_cases e : r = r0
          · subst e
            rw [z0, if_neg (by simp), if_pos ⟨rfl, rfl⟩, if_pos (by rw [if_pos rfl])]
            rfl
          · have n1 : ¬ (r = r0 ∧ (7 : Nat) = 7) := fun q => e q.1
            have n2 : ¬ nI r0 = nI r := fun q => e ((nI_eq_iff (by omega) (by omega)).mp q).symm
            rw [if_neg n2, if_neg n1]
theorem s_remove12 {w : Nat} (hw : w < 30) {x2 : Int32} {h : HP} (S : StSh G h s) (hQ : ∀ h2, FrI (fun a k => s + 5 ≤ a ∧ a ≤ s + 35) h h2 → (∀ u k, u < 31 → tg h2 s u k = if u = w ∧ k = 0 then 0 else if (u < 30 ∧ k = 6) ∧ (¬ tg h s u 0 = 0 ∧ tg h s u 6 = nI w) then x2 else tg h s u k) → Ex G d mX6_remove 74 [(0, .ref s), (1, .int (nI w)), (2, .int x2), (3, .int x2), (4, .int 0)] [] h2 Q) : Ex G d mX6_remove 12 [(0, .ref s), (1, .int (nI w)), (2, .int x2), (3, .int 0)] [] h Q := by
  have loop : ∀ n i h1, i + n = 30 → FrI (fun a k => s + 5 ≤ a ∧ a ≤ s + 35) h h1 → (∀ u k, u < 31 → tg h1 s u k = if (u < i ∧ k = 6) ∧ (¬ tg h s u 0 = 0 ∧ tg h s u 6 = nI w) then x2 else tg h s u k) → Ex G d mX6_remove 12 [(0, .ref s), (1, .int (nI w)), (2, .int x2), (3, .int (nI i))] [] h1 Q := by
    intro n
    induction n with
    | zero =>
      intro i h1 hi F v
      obtain rfl : i = 30 := by omega
      refine t_X6_remove_12 ⟨fun _ => th_at (S.fr F) (t := w) (ti_nI (by omega)) (by omega) (hQ _ (F.tr (FrI.sI _ _ ⟨by omega, by omega⟩)) (fun u k hu => ?_)), fun q => absurd (show (30 : Int32) ≤ nI 30 by decide) q⟩
      rw [tg_set]
      by_cases c : u = w ∧ k = 0
      · rw [if_pos c, if_pos c]
      · rw [if_neg c, if_neg c, v u k hu]
    | succ n ih =>
      intro i h1 hi F v
      have S1 := S.fr F
      have r0 : hI h1 (s + 5 + i) 0 = tg h s i 0 := (v i 0 (by omega)).trans (if_neg (fun q => by omega))
      have r6 : hI h1 (s + 5 + i) 6 = tg h s i 6 := (v i 6 (by omega)).trans (if_neg (fun q => by omega))
      have same : ¬ (¬ tg h s i 0 = 0 ∧ tg h s i 6 = nI w) → Ex G d mX6_remove 12 [(0, .ref s), (1, .int (nI w)), (2, .int x2), (3, .int (nI i + 1))] [] h1 Q := fun c => by
        rw [nI_S]
        refine ih (i + 1) h1 (by omega) F (fun u k hu => ?_)
        rw [v u k hu]
        by_cases e : u = i
        · subst e
          rw [if_neg (fun q => c q.2), if_neg (fun q => c q.2)]
        · by_cases c1 : (u < i ∧ k = 6) ∧ (¬ tg h s u 0 = 0 ∧ tg h s u 6 = nI w)
          · rw [if_pos c1, if_pos ⟨⟨by omega, c1.1.2⟩, c1.2⟩]
          · rw [if_neg c1, if_neg (fun q => c1 ⟨⟨by omega, q.1.2⟩, q.2⟩)]
      refine t_X6_remove_12 ⟨fun q => absurd q (n30_not (by omega)), fun _ => th_at S1 (t := i) (ti_nI (by omega)) (by omega) ⟨fun c => same (fun q => q.1 (r0.symm.trans c)), fun c => th_in S1 (t := i) (ti_nI (by omega)) (by omega) ⟨fun c2 => same (fun q => c2 (r6.trans q.2)), fun c2 => th_in S1 (t := i) (ti_nI (by omega)) (by omega) ?_⟩⟩⟩
      rw [nI_S]
      refine ih (i + 1) _ (by omega) (F.tr (FrI.sI _ _ ⟨by omega, by omega⟩)) (fun u k hu => ?_)
      rw [tg_set, v u k hu]
      by_cases c1 : u = i ∧ k = 6
      · obtain ⟨rfl, rfl⟩ := c1
        rw [if_pos ⟨rfl, rfl⟩, if_pos ⟨⟨by omega, rfl⟩, fun q => c (r0.trans q), r6.symm.trans c2⟩]
      · rw [if_neg c1]
        by_cases c3 : (u < i ∧ k = 6) ∧ (¬ tg h s u 0 = 0 ∧ tg h s u 6 = nI w)
        · rw [if_pos c3, if_pos ⟨⟨by omega, c3.1.2⟩, c3.2⟩]
        · rw [if_neg c3, if_neg (fun q => c3 ⟨⟨by omega, q.1.2⟩, q.2⟩)]
  exact loop 30 0 h rfl (FrI.rf _ h) (fun u k _ => (if_neg (fun q => by omega)).symm)
end RM
theorem Bd.nz {G : GG} {h : HP} {y s : Nat} (B : Bd G h y s) {t : Nat} (ht : t < 30) : (¬ tg h s t 0 = 0) ↔ tS (said h y) t 0 = 1 := by
  rw [(B.2.2.1.2.2.2.1 t ht).1]
  rcases B.2.2.2.2.2.1 t (by omega) with q | q
  · rw [q]; decide
  · rw [q]; decide
theorem p_pull (G : GG) (u0 : Nat) (h : HP) (I : Inv G u0 h) (x1 : Int32) : Pr (Inv G u0) G G.1 (G.1 + 119) mX11_pull mX12_pull [.int x1] h := by
  obtain ⟨s, p, I⟩ := I
  unfold Pr Inv
  generalize G.1 = b at *
  generalize hy : b + 119 = y at *
  have B := I.bd
  have M := B.2.1
  have W := B.2.2.2
  have st := B.1
  have kb := I.1.2.1
  have n2 := I.2.1.2.1
  have ns := I.2.1.1
  have ks := B.1.1
  have ok : some (Value.int 0) = some (Value.int 0) ∧ ∃ s p, InvB G u0 h b y s p := ⟨rfl, s, p, I⟩
  refine e_X11_pull (by omega) ⟨kb, s, n2, ks, c_isWall B (by omega) (fun c => ⟨_, rfl, fun q => absurd rfl q, fun _ => ⟨_, rfl, e_X12_pull (by omega) ⟨M.1, m_isWall M W (by omega) (fun _ => ⟨_, rfl, fun q => absurd rfl q, fun _ => ok⟩) (fun t h6 ht e w => absurd ⟨t, h6, ht, e, w⟩ c)⟩⟩⟩) (fun w h6 hw e w0 => ⟨_, rfl, fun _ => ⟨s, n2, ks, e_X6_remove ?_⟩, fun q => absurd q (by decide)⟩)⟩
  subst e
  refine th_at st (t := w) (ti_nI (by omega)) (by omega) ?_
  have nos := W.nos hw w0
  have ew : hI h (s + 5 + w) 6 = tS (said h y) w 6 := B.th hw w0 (by omega) (by omega)
  rw [ew]
  refine s_remove12 hw st (fun h1 F1 v1 => ?_)
  have et := W.endsT hw w0
  have eb : ∀ r, r < 30 → tS (said h y) r 0 = 1 → tg h1 s r 6 = pullA (tS (said h y)) w r 6 := fun r hr r0 => by
    rw [v1 r 6 (by omega), if_neg (by omega), pullA_6 r0]
    unfold prm
    by_cases c : tS (said h y) r 6 = nI w
    · rw [if_pos c, if_pos ⟨⟨hr, rfl⟩, (B.nz hr).mpr r0, (B.th hr r0 (by omega) (by omega)).trans c⟩]
    · rw [if_neg c, if_neg (fun q => c ((B.th hr r0 (by omega) (by omega)).symm.trans q.2.2)), B.th hr r0 (by omega) (by omega)]
  have ep : prm (tS (said h y)) w (tS (said h y) w 6) = tS (said h y) w 6 := by
    unfold prm
    rw [if_neg nos]
  have pe := pull_ends (A := tS (said h y)) (b := 30) (by omega) (show w < 2147483648 by omega) nos 20 _ et
  rw [ep] at pe
  have eP : ∀ r, r < 30 → pullA (tS (said h y)) w r 0 = 1 → tS (said h y) r 0 = 1 := fun r hr q => by
    unfold pullA at q
    by_cases c : r = w
    · rw [if_pos ⟨c, rfl⟩] at q
      exact absurd q (by decide)
    · rw [if_neg (fun z => c z.1), if_neg (by omega)] at q
      exact q
  have eP0 : ∀ r, r < 30 → pullA (tS (said h y)) w r 0 = 1 → tg h1 s r 0 = 1 := fun r hr q => by
    have r0 := eP r hr q
    have rw' : r ≠ w := fun c => by
      unfold pullA at q
      rw [if_pos ⟨c, rfl⟩] at q
      exact absurd q (by decide)
    rw [v1 r 0 (by omega), if_neg (fun z => rw' z.1), if_neg (fun z => by omega), (B.2.2.1.2.2.2.1 r hr).1]
    exact r0
  have ce : endsF (tg h1 s) 31 20 (tS (said h y) w 6) := ((pe.congr (A' := tg h1 s) eP0 (fun r hr q => eb r hr (eP r hr q))).toF).mono (by omega) (Nat.le_refl _)
  have cl : ∀ r, r < 30 → r ≠ w → liesF (tg h1 s) (nI r) 31 (tS (said h y) w 6) = liesF (tS (said h y)) (nI r) 31 (tS (said h y) w 6) := fun r hr hne => by
    rw [liesT_congr (A := pullA (tS (said h y)) w) (b := 30) (by omega) (fun r hr q => eb r hr (eP r hr q)) (nI r) 31 20 _ pe]
    have := pull_lies (A := tS (said h y)) (b := 30) (by omega) (show w < 2147483648 by omega) nos (o := nI r) (fun q => hne ((nI_eq_iff (by omega) (by omega)).mp q)) 20 31 31 _ et (by omega) (by omega)
    rw [ep] at this
    exact this
  have inCh : ∀ r, r < 31 → liesF (tg h1 s) (nI r) 31 (tS (said h y) w 6) = true → r < 30 ∧ pullA (tS (said h y)) w r 0 = 1 := fun r hr q => by
    rw [liesT_congr (A := pullA (tS (said h y)) w) (b := 30) (by omega) (fun r hr q => eb r hr (eP r hr q)) (nI r) 31 20 _ pe] at q
    have aux : ∀ (n m : Nat) (p : Int32), endsT (pullA (tS (said h y)) w) 30 n p → liesF (pullA (tS (said h y)) w) (nI r) m p = true → r < 30 ∧ pullA (tS (said h y)) w r 0 = 1 := by
      intro n
      induction n with
      | zero =>
        intro m p hp hl
        obtain rfl : p = -1 := hp
        cases m <;> simp [liesF] at hl
      | succ n ih =>
        intro m p hp hl
        rcases hp with rfl | ⟨u, rfl, h3, h0, h4⟩
        · cases m <;> simp [liesF] at hl
        · cases m with
          | zero => simp [liesF] at hl
          | succ m =>
            simp only [liesF, if_neg (nI_ne_neg (show u < 2147483648 by omega)), cl_nI (show u < 2147483648 by omega)] at hl
            by_cases e : nI u = nI r
            · have := (nI_eq_iff (by omega) (by omega)).mp e
              subst this
              exact ⟨h3, h0⟩
            · rw [if_neg e] at hl
              exact ih m _ h4 hl
    exact aux 20 31 _ pe q
  refine s_remove74 (tg h1 s) 20 h1 (tS (said h y) w 6) 0 (by omega) (st.fr F1) (fun r _ => rfl) ce (fun r hr hl => ?_) (fun h2 F2 v2 => ?_)
  · obtain ⟨r30, rp⟩ := inCh r hr hl
    have r0 := eP r r30 rp
    have rw' : r ≠ w := fun c => by
      unfold pullA at rp
      rw [if_pos ⟨c, rfl⟩] at rp
      exact absurd rp (by decide)
    rw [eb r r30 r0, pullA_6 r0]
    have etr := W.endsT r30 r0
    have per := pull_ends (A := tS (said h y)) (b := 30) (by omega) (show w < 2147483648 by omega) nos 20 _ etr
    rw [liesT_congr (A := pullA (tS (said h y)) w) (b := 30) (by omega) (fun r hr q => eb r hr (eP r hr q)) (nI r) 31 20 _ per, pull_lies (A := tS (said h y)) (b := 30) (by omega) (show w < 2147483648 by omega) nos (o := nI r) (fun q => rw' ((nI_eq_iff (by omega) (by omega)).mp q)) 20 31 31 _ etr (by omega) (by omega)]
    exact W.2.2.2.2.noself (by omega) r30 r0 31
  · have F12 : FrI (fun a k => s + 5 ≤ a ∧ a ≤ s + 35) h h2 := F1.tr (F2.weak (fun a k q => ⟨q.1, q.2.1⟩))
    have eS : said h2 y = said h y := funext fun j => F12.i (by omega)
    have M2 : MdSh G h2 y := M.fr F12
    have W2 : WF (said h2 y) := by rw [eS]; exact W
    have vv : ∀ u k, u < 31 → k ≠ 7 → tg h2 s u k = tg h1 s u k := fun u k hu hk => F2.i (by omega)
    refine ⟨rfl, _, rfl, e_X12_pull (by omega) ⟨M2.1, m_isWall M2 W2 (by omega) (fun q => absurd (isW.of h6 hw (by rw [eS]; exact w0)) q) (fun _ _ _ _ _ => ⟨_, rfl, fun _ => r_pulls (by omega) M2 (by omega) (fun h3 F3 v3 => ⟨rfl, rfl, s, p, ?_⟩), fun q => absurd q (by decide)⟩)⟩⟩
    rw [eS] at v3
    have eT := v3
    have F : FrJ (fun a k => (s + 5 ≤ a ∧ a ≤ s + 35) ∨ (a = y + 13 ∧ 1608 ≤ k ∧ k < 2256)) (fun _ _ => False) h h3 := ((F12.j _).weak (fun a k q => Or.inl q) (fun _ _ q => q)).tr ((F3.j _).weak (fun a k q => Or.inr q) (fun _ _ q => q))
    have eG : ∀ u k, u < 31 → tg h3 s u k = tg h2 s u k := fun u k hu => F3.i (by omega)
    have t0 : ∀ u, u < 30 → tS (said h3 y) u 0 = 1 → u ≠ w ∧ tS (said h y) u 0 = 1 := fun u hu q => by
      rw [eT u 0 (by omega) (by omega)] at q
      refine ⟨fun c => ?_, eP u hu q⟩
      unfold pullA at q
      rw [if_pos ⟨c, rfl⟩] at q
      exact absurd q (by decide)
    have eK : ∀ u k, u < 54 → k < 12 → k ≠ 6 → (u ≠ w ∨ k ≠ 0) → tS (said h3 y) u k = tS (said h y) u k := fun u k hu hk h6' hn => by
      rw [eT u k hu hk, pullA_ne h6' hn]
    have ef : ∀ j, ¬ (1608 ≤ j ∧ j < 2256) → said h3 y j = said h y j := fun j hj => F.i (by omega)
    have hb0 : ∀ u, u < 54 → tS (said h3 y) u 0 = 0 ∨ (tS (said h3 y) u 0 = tS (said h y) u 0 ∧ u ≠ w) := fun u hu => by
      by_cases c : u = w
      · left
        rw [eT u 0 hu (by omega)]
        unfold pullA
        rw [if_pos ⟨c, rfl⟩]
      · exact Or.inr ⟨eK u 0 hu (by omega) (by omega) (Or.inl c), c⟩
    refine I.thg F (fun a k q => by unfold ThgP; omega) (fun _ _ q => q.elim) (fun q u hu => ?_) (fun u hu => ?_) ?_ ?_
    · rw [q w hw] at w0
      exact absurd w0 (by decide)
    · obtain ⟨d1, d2⟩ := B.2.2.1.2.2.2.1 u hu
      refine ⟨?_, fun q => ?_⟩
      · rw [eG u 0 (by omega), vv u 0 (by omega) (by omega), v1 u 0 (by omega), eT u 0 (by omega) (by omega)]
        unfold pullA
        by_cases c : u = w
        · rw [if_pos ⟨c, rfl⟩, if_pos ⟨c, rfl⟩]
        · have n1 : ¬ (u = w ∧ (0 : Nat) = 0) := fun z => c z.1
          rw [if_neg n1, if_neg n1, if_neg (fun z => absurd z.1.2 (by decide)), if_neg (fun z => absurd z.1 (by decide))]
          exact d1
      · obtain ⟨uw, u0'⟩ := t0 u hu q
        obtain ⟨e1, e2, e3, e4, e5, e6⟩ := d2 u0'
        have g : ∀ k, k ≠ 7 → k ≠ 6 → k < 12 → tg h3 s u k = tg h s u k := fun k h7 h6' hk => by
          rw [eG u k (by omega), vv u k (by omega) h7, v1 u k (by omega), if_neg (fun z => uw z.1), if_neg (fun z => h6' z.1.2)]
        refine ⟨fun k h1 h6' => ?_, ?_, ?_, ?_, ?_, ?_⟩
        · by_cases c6 : k = 6
          · rw [c6, eG u 6 (by omega), vv u 6 (by omega) (by omega), eb u hu u0', eT u 6 (by omega) (by omega)]
          · rw [g k (by omega) c6 (by omega), eK u k (by omega) (by omega) c6 (Or.inl uw)]
            exact e1 k h1 h6'
        · have g7 : tg h1 s u 7 = nI (deepN (tS (said h y)) 31 (nI u)) := by
            rw [v1 u 7 (by omega), if_neg (fun z => uw z.1), if_neg (fun z => absurd z.1.2 (by decide)), e2]
          rw [eG u 7 (by omega), v2 u (by omega), cl u hu uw, g7]
          have pd := pull_deep W h6 hw w0 eT hu uw
          have le := deepN_le (tS (said h3 y)) 31 (nI u)
          by_cases c : liesF (tS (said h y)) (nI u) 31 (tS (said h y) w 6) = true
          · rw [if_pos c] at pd
            rw [if_pos c, pd]
            show nI (_ + 1) - nI 1 = _
            rw [nS (Nat.le_add_left 1 _), Nat.add_sub_cancel]
          · rw [if_neg c] at pd
            rw [if_neg c, pd, Nat.add_zero]
        · rw [g 8 (by omega) (by omega) (by omega), eK u 7 (by omega) (by omega) (by omega) (Or.inl uw)]
          exact e3
        · rw [g 10 (by omega) (by omega) (by omega), eK u 7 (by omega) (by omega) (by omega) (Or.inl uw)]
          exact e4
        · rw [g 9 (by omega) (by omega) (by omega), g 10 (by omega) (by omega) (by omega), eK u 7 (by omega) (by omega) (by omega) (Or.inl uw), eK u 8 (by omega) (by omega) (by omega) (Or.inl uw), eK u 9 (by omega) (by omega) (by omega) (Or.inl uw)]
          exact e5
        · rw [g 11 (by omega) (by omega) (by omega), eK u 10 (by omega) (by omega) (by omega) (Or.inl uw)]
          exact e6
    · rw [eG 30 0 (by omega), vv 30 0 (by omega) (by omega), v1 30 0 (by omega), if_neg (by omega), if_neg (fun z => by omega)]
      exact I.2.2.1.2.2.2.2.1
    · refine W.thg ef (fun u hu => eK u 0 (by omega) (by omega) (by omega) (Or.inl (by omega))) (fun u hu q => ?_) ?_ (fun u hu => ?_) (fun u h1 h2 => ?_) ?_
      · obtain ⟨uw, u0'⟩ := t0 u hu q
        obtain ⟨a1, a2, a3⟩ := W.1.2.2.2.2.2.1 u hu u0'
        rw [eK u 5 (by omega) (by omega) (by omega) (Or.inl uw), eK u 7 (by omega) (by omega) (by omega) (Or.inl uw)]
        refine ⟨a1, a2, ?_⟩
        unfold gat at a3 ⊢
        rw [eK u 10 (by omega) (by omega) (by omega) (Or.inl uw), eK u 7 (by omega) (by omega) (by omega) (Or.inl uw), eK u 8 (by omega) (by omega) (by omega) (Or.inl uw), eK u 9 (by omega) (by omega) (by omega) (Or.inl uw), eK u 1 (by omega) (by omega) (by omega) (Or.inl uw), eK u 2 (by omega) (by omega) (by omega) (Or.inl uw), eK u 3 (by omega) (by omega) (by omega) (Or.inl uw), eK u 4 (by omega) (by omega) (by omega) (Or.inl uw)]
        exact a3
      · rintro ⟨u, hu, q⟩
        rw [ef 2 (by omega)]
        exact W.2.1 ⟨u, hu, (t0 u hu q).2⟩
      · rcases hb0 u hu with q | q
        · exact Or.inl q
        · rw [q.1]; exact W.2.2.1 u hu
      · rcases hb0 u h2 with q | q
        · exact q
        · rw [q.1]; exact W.2.2.2.1 u h1 h2
      · rw [ef 0 (by omega), ef 1 (by omega)]
        exact pull_wft W.2.2.2.2 W.2.2.1 h6 hw w0 eT
