/-! ===== pair where ===== -/
def prE (S : Nat → Int32) (w e : Nat) : Prop := ¬ S (2400 + 6 * e) = 0 ∧ (inLd S (eO S e) ∧ inLd S (eT S e)) ∧ crW (tS S) w (eO S e) (eT S e)
/-- what an errand costs by a gate, if it must go over the wall -/
noncomputable def gE (S : Nat → Int32) (w : Nat) (m : Bool) (j e : Nat) : Int := @ite _ (prE S w e) (Classical.propDecidable _) (gV S w (S (2400 + 6 * e + 1)) (eO S e) (eT S e) m (j / 40) (j % 40)) 0
/-- what it costs, if it needn't -/
noncomputable def uE (S : Nat → Int32) (w : Nat) (m : Bool) (e : Nat) : Int := @ite _ (prE S w e) (Classical.propDecidable _) 0 (xE S m 0 e)
section WH
variable {S S' : Nat → Int32} {w : Nat}
theorem gV_rng (W : WF S) {f : Int32} {o t : Nat} (ho : o < 1600) (ht : t < 1600) (m : Bool) (sd pl : Nat) : 0 ≤ gV S w f o t m sd pl ∧ gV S w f o t m sd pl ≤ 23976 := by
  have c := coi_rng (f := f) (o := o) (c := t) W.gt
  have d1 := dR_rng (g := 0) (c := gN S w sd pl o) W.l40 ho
  have d2 := dR_rng (g := 0) (c := gF S w sd pl o) W.l40 ht
  by_cases b : gBad S w sd pl o t
  · rw [gV_bad b]
    cases m <;> simp
  · rw [gV_ok b]
    unfold gBad at b
    cases m
    · rw [if_neg (by decide)]
      omega
    · rw [if_pos rfl]
      omega
theorem gE_yes {e : Nat} (h : prE S w e) (m : Bool) (j : Nat) : gE S w m j e = gV S w (S (2400 + 6 * e + 1)) (eO S e) (eT S e) m (j / 40) (j % 40) := @if_pos _ (Classical.propDecidable _) h _ _ _
theorem gE_no {e : Nat} (h : ¬ prE S w e) (m : Bool) (j : Nat) : gE S w m j e = 0 := @if_neg _ (Classical.propDecidable _) h _ _ _
theorem uE_yes {e : Nat} (h : prE S w e) (m : Bool) : uE S w m e = 0 := @if_pos _ (Classical.propDecidable _) h _ _ _
theorem uE_no {e : Nat} (h : ¬ prE S w e) (m : Bool) : uE S w m e = xE S m 0 e := @if_neg _ (Classical.propDecidable _) h _ _ _
theorem gE_rng (W : WF S) (m : Bool) (j : Nat) {e : Nat} (he : e < 6) : 0 ≤ gE S w m j e ∧ gE S w m j e ≤ 23976 := by
  by_cases p : prE S w e
  · rw [gE_yes p]
    obtain ⟨-, -, ⟨o16, -, -⟩, t16, -, -⟩ := W.er he p.1
    exact gV_rng W o16 t16 m _ _
  · rw [gE_no p]
    omega
theorem gts_xE (W : WF S) (hw : wl (tS S) w) {sd pl : Nat} (h4 : sd < 4) (hp : pl < lnW (tS S) w sd) (Q : GtS S S' w sd pl) (m : Bool) {e : Nat} (he : e < 6) : xE S' m 0 e = gE S w m (40 * sd + pl) e + uE S w m e := by
  have ll := lnW_le W hw sd
  have w30 := hw.2.1
  have ef : ∀ j, 2256 ≤ j → S' j = S j := fun j hj => Q.1 j (by omega)
  have e0 : S' (2400 + 6 * e) = S (2400 + 6 * e) := ef _ (by omega)
  have e1 : S' (2400 + 6 * e + 1) = S (2400 + 6 * e + 1) := ef _ (by omega)
  have een : ∀ j, eN S' e j = eN S e j := fun j => by
    unfold eN
    rw [ef _ (by omega)]
  have eeo : eO S' e = eO S e := by
    unfold eO
    rw [een, een]
  have eet : eT S' e = eT S e := by
    unfold eT
    rw [een, een]
  by_cases z : S (2400 + 6 * e) = 0
  · have np : ¬ prE S w e := fun p => p.1 z
    rw [xE_no (e0.trans z), gE_no np, uE_no np, xE_no z]
    rfl
  · have z' : ¬ S' (2400 + 6 * e) = 0 := fun q => z (e0.symm.trans q)
    obtain ⟨-, -, ⟨o16, -, -⟩, t16, -, -⟩ := W.er he z
    have ok' : okE S' 0 e ↔ inLd S (eO S e) ∧ inLd S (eT S e) ∧ dR S' 0 (eO S e) (eT S e) ≠ -1 := by
      unfold okE
      rw [eeo, eet, gts_ld Q, gts_ld Q]
    have x' : xE S' m 0 e = if m then (if dR S' 0 (eO S e) (eT S e) = -1 ∨ ¬ (inB (S 0) (S 1) (nI (eO S e % 40)) (nI (eO S e / 40)) = true ∧ inB (S 0) (S 1) (nI (eT S e % 40)) (nI (eT S e / 40)) = true) then 999 else coi (tS S) (S (2400 + 6 * e + 1)) (eO S e) (eT S e)) else (if dR S' 0 (eO S e) (eT S e) = -1 ∨ ¬ (inB (S 0) (S 1) (nI (eO S e % 40)) (nI (eO S e / 40)) = true ∧ inB (S 0) (S 1) (nI (eT S e % 40)) (nI (eT S e / 40)) = true) then 9999 else dR S' 0 (eO S e) (eT S e)) := by
      by_cases ok : okE S' 0 e
      · have o2 := ok'.mp ok
        rw [xE_ok z' ok, eeo, eet, e1, gts_coi W hw h4 Q]
        have n : ¬ (dR S' 0 (eO S e) (eT S e) = -1 ∨ ¬ (inB (S 0) (S 1) (nI (eO S e % 40)) (nI (eO S e / 40)) = true ∧ inB (S 0) (S 1) (nI (eT S e % 40)) (nI (eT S e / 40)) = true)) := by
          rw [inB_c o16, inB_c t16]
          exact fun q => q.elim o2.2.2 (fun y => y ⟨o2.1, o2.2.1⟩)
        rw [if_neg n, if_neg n]
      · rw [xE_bad z' ok]
        have n : dR S' 0 (eO S e) (eT S e) = -1 ∨ ¬ (inB (S 0) (S 1) (nI (eO S e % 40)) (nI (eO S e / 40)) = true ∧ inB (S 0) (S 1) (nI (eT S e % 40)) (nI (eT S e / 40)) = true) := by
          rw [inB_c o16, inB_c t16]
          by_cases q : dR S' 0 (eO S e) (eT S e) = -1
          · exact Or.inl q
          · exact Or.inr (fun y => ok (ok'.mpr ⟨y.1, y.2, q⟩))
        rw [if_pos n, if_pos n]
    by_cases p : prE S w e
    · have gw := gate_way W hw h4 hp Q o16 t16 p.2.2 (gnr_is S w sd pl (eO S e))
      have il : inB (S 0) (S 1) (nI (eO S e % 40)) (nI (eO S e / 40)) = true ∧ inB (S 0) (S 1) (nI (eT S e % 40)) (nI (eT S e / 40)) = true := by
        rw [inB_c o16, inB_c t16]
        exact p.2.1
      have d1 := dR_rng (g := 0) (c := gN S w sd pl (eO S e)) W.l40 o16
      have d2 := dR_rng (g := 0) (c := gF S w sd pl (eO S e)) W.l40 t16
      rw [gE_yes p, uE_yes p, show (40 * sd + pl) / 40 = sd by omega, show (40 * sd + pl) % 40 = pl by omega, x', Int.add_zero]
      by_cases b : gBad S w sd pl (eO S e) (eT S e)
      · replace gw := gw.trans (@if_pos _ (Classical.propDecidable _) b _ _ _)
        rw [gV_bad b, if_pos (Or.inl gw), if_pos (Or.inl gw)]
      · replace gw := gw.trans (@if_neg _ (Classical.propDecidable _) b _ _ _)
        have nb := b
        unfold gBad at nb
        have n : ¬ (dR S' 0 (eO S e) (eT S e) = -1 ∨ ¬ (inB (S 0) (S 1) (nI (eO S e % 40)) (nI (eO S e / 40)) = true ∧ inB (S 0) (S 1) (nI (eT S e % 40)) (nI (eT S e / 40)) = true)) := fun q => q.elim (fun y => by omega) (fun y => y il)
        rw [gV_ok b, if_neg n, if_neg n, gw]
    · rw [gE_no p, uE_no p, x', Int.zero_add]
      have same : inLd S (eO S e) → inLd S (eT S e) → dR S' 0 (eO S e) (eT S e) = dR S 0 (eO S e) (eT S e) := fun a b => gate_same W hw h4 hp Q o16 (fun cr => p ⟨z, ⟨a, b⟩, cr⟩)
      by_cases ok : okE S 0 e
      · have sm := same ok.1 ok.2.1
        have n : ¬ (dR S' 0 (eO S e) (eT S e) = -1 ∨ ¬ (inB (S 0) (S 1) (nI (eO S e % 40)) (nI (eO S e / 40)) = true ∧ inB (S 0) (S 1) (nI (eT S e % 40)) (nI (eT S e / 40)) = true)) := by
          rw [inB_c o16, inB_c t16, sm]
          exact fun q => q.elim ok.2.2 (fun y => y ⟨ok.1, ok.2.1⟩)
        rw [xE_ok z ok, if_neg n, if_neg n, sm]
      · have n : dR S' 0 (eO S e) (eT S e) = -1 ∨ ¬ (inB (S 0) (S 1) (nI (eO S e % 40)) (nI (eO S e / 40)) = true ∧ inB (S 0) (S 1) (nI (eT S e % 40)) (nI (eT S e / 40)) = true) := by
          rw [inB_c o16, inB_c t16]
          by_cases q : inLd S (eO S e) ∧ inLd S (eT S e)
          · refine Or.inl ?_
            rw [same q.1 q.2]
            exact Classical.byContradiction (fun y => ok ⟨q.1, q.2, y⟩)
          · exact Or.inr q
        rw [xE_bad z ok, if_pos n, if_pos n]
end WH
noncomputable def wC (S : Nat → Int32) (w : Nat) (m : Bool) (j : Nat) : Int := sum1 (fun e => gE S w m j e) 6
noncomputable def wU (S : Nat → Int32) (w : Nat) (m : Bool) : Int := sum1 (fun e => uE S w m e) 6
theorem xE_rng {S : Nat → Int32} (W : WF S) (m : Bool) {e : Nat} (he : e < 6) : 0 ≤ xE S m 0 e ∧ xE S m 0 e ≤ 23976 := by
  by_cases z : S (2400 + 6 * e) = 0
  · rw [xE_no z]
    omega
  · obtain ⟨-, -, ⟨o16, -, -⟩, t16, -, -⟩ := W.er he z
    have c := coi_rng (f := S (2400 + 6 * e + 1)) (o := eO S e) (c := eT S e) W.gt
    have d1 := dR_rng (g := 0) (c := eT S e) W.l40 o16
    by_cases ok : okE S 0 e
    · rw [xE_ok z ok]
      have := ok.2.2
      cases m
      · rw [if_neg (by decide)]
        omega
      · rw [if_pos rfl]
        omega
    · rw [xE_bad z ok]
      cases m <;> simp
section WR
variable {G : GG} {d : Nat} {y : Nat} {S : Nat → Int32} {Q : Option Value → HP → Prop} {w : Nat}
/-- where the reference stands in between: all but the wall's gate is as it was -/
def GtL (S S' : Nat → Int32) (w : Nat) : Prop := ∀ j, ¬ (j = 1608 + 12 * w + 7 ∨ j = 1608 + 12 * w + 8 ∨ j = 1608 + 12 * w + 9) → S' j = S j
def WhF (y w a k : Nat) : Prop := WrP y a k ∨ (a = y + 13 ∧ (k = 1608 + 12 * w + 7 ∨ k = 1608 + 12 * w + 8 ∨ k = 1608 + 12 * w + 9))
set_option maxHeartbeats 1000000 in
theorem r_where61 {h : HP} (hd : 9 ≤ d) (X : RfX G h y S) (hw : wl (tS S) w) {x2 : Int32} (hQ : ∀ h2, FrI (WhF y w) h h2 → (∀ k, hI h2 (y + 13) k = hI h (y + 13) k) → vldG (tS S) w (bestG (wC S w true) (wC S w false) (lnW (tS S) w)) → Q (some (.int (if x2 = 0 then nI (bestG (wC S w true) (wC S w false) (lnW (tS S) w) / 40) else nI (bestG (wC S w true) (wC S w false) (lnW (tS S) w) % 40)))) h2) : Ex G d mX12_where 61 [(0, .ref y), (1, .int (nI w)), (2, .int x2), (3, .int (tS S w 7)), (4, .int (tS S w 8)), (5, .int (tS S w 9)), (6, .int (-1)), (7, .int 0), (8, .int 0), (9, .int 0), (10, .int 0)] [] h Q := by
  have W := X.2.2.1
  have w30 := hw.2.1
  have sC : ∀ m j, vldG (tS S) w j → 0 ≤ wC S w m j + wU S w m ∧ wC S w m j + wU S w m < 1000000 := fun m j v => by
    have e1 := sum1_rng (f := fun e => gE S w m j e) (m := 23976) 6 (fun e he => gE_rng W m j he)
    have e2 := sum1_rng (f := fun e => uE S w m e) (m := 23976) 6 (fun e he => by
      by_cases p : prE S w e
      · show 0 ≤ uE S w m e ∧ _
        rw [uE_yes p]
        omega
      · show 0 ≤ uE S w m e ∧ _
        rw [uE_no p]
        exact xE_rng W m he)
    unfold wC wU
    omega
  -- the state between
  let C : Nat → Int := fun j => wC S w true j + wU S w true
  let T : Nat → Int := fun j => wC S w false j + wU S w false
  have sh : bestG C T (lnW (tS S) w) = bestG (wC S w true) (wC S w false) (lnW (tS S) w) := by
    unfold bestG rowG
    rw [stpG_shift]
  have md : ∀ h1, FrI (WhF y w) h h1 → MdSh G h1 y ∧ GtL S (said h1 y) w := fun h1 F => ⟨X.1.fr F, fun j hj => by
    show hI h1 (y + 13) j = _
    rw [F.i (by unfold WhF WrP; omega)]
    exact congrFun X.2.1 j⟩
  have len : ∀ h1, FrI (WhF y w) h h1 → ∀ sd, sd < 4 → sidF (tS (said h1 y)) w (nI sd) = nI (lnW (tS S) w sd) := fun h1 F sd h4 => sidF_n W hw (fun k a b => (md h1 F).2 _ (by omega)) h4
  have nx : ∀ x : Int32, x + 1 = x + 1 := fun _ => rfl
  -- what is found so far
  let St : Nat → Nat → Nat → Int32 → Int32 → Int32 → Int32 → Prop := fun sd pl a x6 x7 x8 x9 => (sd = 0 ∧ pl = 0 ∧ a = 0 ∧ x6 = -1) ∨ (x6 = nI (a / 40) ∧ x7 = nI (a % 40) ∧ x8 = iI (C a) ∧ x9 = iI (T a))
  have step : ∀ sd pl a x6 x7 x8 x9 h1, sd < 4 → pl < lnW (tS S) w sd → vldG (tS S) w a → FrI (WhF y w) h h1 → St sd pl a x6 x7 x8 x9 → (∀ a' x6 x7 x8 x9 h2, a' = stpG C T (40 * sd + pl) a → vldG (tS S) w a' → FrI (WhF y w) h h2 → (x6 = nI (a' / 40) ∧ x7 = nI (a' % 40) ∧ x8 = iI (C a') ∧ x9 = iI (T a')) → Ex G d mX12_where 70 [(0, .ref y), (1, .int (nI w)), (2, .int x2), (3, .int (tS S w 7)), (4, .int (tS S w 8)), (5, .int (tS S w 9)), (6, .int x6), (7, .int x7), (8, .int x8), (9, .int x9), (10, .int (nI sd)), (11, .int (nI pl + 1))] [] h2 Q) → ∀ z : Int32, z = (if tS S w 9 = -1 then 0 else tS S w 9) → Ex G d mX12_where 100 [(0, .ref y), (1, .int (nI w)), (2, .int x2), (3, .int (tS S w 7)), (4, .int (tS S w 8)), (5, .int (tS S w 9)), (6, .int x6), (7, .int x7), (8, .int x8), (9, .int x9), (10, .int (nI sd)), (11, .int (nI pl))] [.int z, .int (nI pl), .int (nI sd), .int (nI w), .ref y] h1 Q := by
    intro sd pl a x6 x7 x8 x9 h1 h4 hp va F st next z hz
    have ll := lnW_le W hw sd
    obtain ⟨M1, g1⟩ := md h1 F
    refine t_X12_where_100 (by omega) ⟨M1.1, r_gates (by omega) M1 (by omega) ⟨rfl, ?_⟩⟩
    generalize gh : sI (sI (sI h1 (y + 13) (1608 + 12 * w + 7) (nI sd)) (y + 13) (1608 + 12 * w + 8) (nI pl)) (y + 13) (1608 + 12 * w + 9) z = h2
    have F12 : FrI (WhF y w) h1 h2 := by
      rw [← gh]
      exact ((FrI.sI (P := WhF y w) h1 _ (Or.inr ⟨rfl, Or.inl rfl⟩)).tr (FrI.sI (P := WhF y w) _ _ (Or.inr ⟨rfl, Or.inr (Or.inl rfl)⟩))).tr (FrI.sI (P := WhF y w) _ _ (Or.inr ⟨rfl, Or.inr (Or.inr rfl)⟩))
    have F2 := F.tr F12
    obtain ⟨M2, g2⟩ := md h2 F2
    have QS : GtS S (said h2 y) w sd pl := by
      refine ⟨g2, ?_, ?_, ?_⟩
      · show hI h2 (y + 13) (1608 + 12 * w + 7) = _
        rw [← gh, hI_ne _ _ (Or.inr (by omega)), hI_ne _ _ (Or.inr (by omega)), hI_eq]
      · show hI h2 (y + 13) (1608 + 12 * w + 8) = _
        rw [← gh, hI_ne _ _ (Or.inr (by omega)), hI_eq]
      · show hI h2 (y + 13) (1608 + 12 * w + 9) = _
        rw [← gh, hI_eq, hz]
    have W2 := gts_wf W hw h4 hp QS
    have X2 : RfX G h2 y (said h2 y) := ⟨M2, rfl, W2, by rw [g2 3 (by omega)]; exact X.2.2.2⟩
    refine ⟨M2.1, r_sums (by omega) X2 (fun h3 F3 v1 v2 => ⟨rfl, ?_⟩)⟩
    have vj : vldG (tS S) w (40 * sd + pl) := by
      unfold vldG
      rw [show (40 * sd + pl) / 40 = sd by omega, show (40 * sd + pl) % 40 = pl by omega]
      omega
    have F3' := F2.tr (F3.weak (fun a k q => Or.inl q : ∀ a k, WrP y a k → WhF y w a k))
    have e1 : hI h3 y 47 = iI (C (40 * sd + pl)) := by
      rw [v1, sum1_congr 6 (fun e he => gts_xE W hw h4 hp QS true he), sum1_add]
      rfl
    have e2 : hI h3 y 48 = iI (T (40 * sd + pl)) := by
      rw [v2, sum1_congr 6 (fun e he => gts_xE W hw h4 hp QS false he), sum1_add]
      rfl
    rw [e1, e2]
    have k3 : Kd G h3 y 12 := F3.kd M2.1
    have c1 := sC true _ vj
    have c2 := sC false _ vj
    have c3 := sC true _ va
    have c4 := sC false _ va
    have take : stpG C T (40 * sd + pl) a = 40 * sd + pl → Ex G d mX12_where 142 [(0, .ref y), (1, .int (nI w)), (2, .int x2), (3, .int (tS S w 7)), (4, .int (tS S w 8)), (5, .int (tS S w 9)), (6, .int x6), (7, .int x7), (8, .int x8), (9, .int x9), (10, .int (nI sd)), (11, .int (nI pl))] [] h3 Q := fun eq => by
      refine t_X12_where_142 ⟨k3, ?_⟩
      exact next _ _ _ _ _ h3 eq.symm vj F3' ⟨by rw [show (40 * sd + pl) / 40 = sd by omega], by rw [show (40 * sd + pl) % 40 = pl by omega], e1, e2⟩
    have iC : ∀ j, vldG (tS S) w j → (iI (C j)).toInt = C j := fun j v => by
      have := sC true j v
      exact ti_iI (by show _ ≤ wC S w true j + wU S w true; omega) (by show wC S w true j + wU S w true < _; omega)
    have iT : ∀ j, vldG (tS S) w j → (iI (T j)).toInt = T j := fun j v => by
      have := sC false j v
      exact ti_iI (by show _ ≤ wC S w false j + wU S w false; omega) (by show wC S w false j + wU S w false < _; omega)
    rcases st with ⟨s1, s2, s3, s4⟩ | ⟨s1, s2, s3, s4⟩
    · refine ⟨fun _ => take ?_, fun n => absurd (by rw [s4]; decide) n⟩
      rw [s1, s2, s3, show 40 * 0 + 0 = 0 from rfl]
      unfold stpG
      rw [if_neg (by omega)]
    · have a160 : a < 160 := by have := va.1; omega
      have keep : ¬ (C (40 * sd + pl) < C a ∨ (C (40 * sd + pl) = C a ∧ T (40 * sd + pl) < T a)) → Ex G d mX12_where 70 [(0, .ref y), (1, .int (nI w)), (2, .int x2), (3, .int (tS S w 7)), (4, .int (tS S w 8)), (5, .int (tS S w 9)), (6, .int x6), (7, .int x7), (8, .int x8), (9, .int x9), (10, .int (nI sd)), (11, .int (nI pl + 1))] [] h3 Q := fun n => next a _ _ _ _ h3 (by unfold stpG; rw [if_neg n]) va F3' ⟨s1, s2, s3, s4⟩
      have take' : (C (40 * sd + pl) < C a ∨ (C (40 * sd + pl) = C a ∧ T (40 * sd + pl) < T a)) → Ex G d mX12_where 142 [(0, .ref y), (1, .int (nI w)), (2, .int x2), (3, .int (tS S w 7)), (4, .int (tS S w 8)), (5, .int (tS S w 9)), (6, .int x6), (7, .int x7), (8, .int x8), (9, .int x9), (10, .int (nI sd)), (11, .int (nI pl))] [] h3 Q := fun n => take (by unfold stpG; rw [if_pos n])
      refine ⟨fun n => ?_, fun _ => ⟨fun n => keep ?_, fun n => ⟨fun n2 => take' ?_, fun n2 => ⟨fun n3 => take' ?_, fun n3 => keep ?_⟩⟩⟩⟩
      · rw [s1, ti_lt, ti_nI (by omega), show (0 : Int32).toInt = 0 from rfl] at n
        omega
      all_goals rw [s3, ti_lt, iC _ va, iC _ vj] at n
      · omega
      all_goals rw [s3, ti_eq, iC _ va, iC _ vj] at n2
      · omega
      all_goals rw [s4, ti_lt, iT _ va, iT _ vj] at n3
      · omega
      · omega
  have inner : ∀ sd, sd < 4 → ∀ n pl a x6 x7 x8 x9 h1, pl + n = lnW (tS S) w sd → vldG (tS S) w a → FrI (WhF y w) h h1 → St sd pl a x6 x7 x8 x9 → (∀ a' x6 x7 x8 x9 h2, a' = foldF (fun pl a => stpG C T (40 * sd + pl) a) a pl n → vldG (tS S) w a' → FrI (WhF y w) h h2 → (x6 = nI (a' / 40) ∧ x7 = nI (a' % 40) ∧ x8 = iI (C a') ∧ x9 = iI (T a')) → Ex G d mX12_where 61 [(0, .ref y), (1, .int (nI w)), (2, .int x2), (3, .int (tS S w 7)), (4, .int (tS S w 8)), (5, .int (tS S w 9)), (6, .int x6), (7, .int x7), (8, .int x8), (9, .int x9), (10, .int (nI sd + 1))] [] h2 Q) → Ex G d mX12_where 70 [(0, .ref y), (1, .int (nI w)), (2, .int x2), (3, .int (tS S w 7)), (4, .int (tS S w 8)), (5, .int (tS S w 9)), (6, .int x6), (7, .int x7), (8, .int x8), (9, .int x9), (10, .int (nI sd)), (11, .int (nI pl))] [] h1 Q := by
    intro sd h4 n
    have ll := lnW_le W hw sd
    induction n with
    | zero =>
      intro pl a x6 x7 x8 x9 h1 hn va F st next
      obtain ⟨M1, g1⟩ := md h1 F
      refine t_X12_where_70 (by omega) ⟨M1.1, r_sideOf (by omega) M1 (by omega) ⟨_, rfl, fun _ => ?_, fun z => ?_⟩⟩
      · rcases st with ⟨s1, s2, s3, s4⟩ | st
        · omega
        · exact next a _ _ _ _ h1 rfl va F st
      · rw [len h1 F sd h4] at z
        exact absurd ((nI_le_iff (by omega) (by omega)).mpr (by omega)) z
    | succ n ih =>
      intro pl a x6 x7 x8 x9 h1 hn va F st next
      obtain ⟨M1, g1⟩ := md h1 F
      simp only [foldF] at next
      have go := step sd pl a x6 x7 x8 x9 h1 h4 (by omega) va F st (fun a' y6 y7 y8 y9 h2 ea va' F2 s2 => by
        rw [nI_S]
        refine ih (pl + 1) a' y6 y7 y8 y9 h2 (by omega) va' F2 (Or.inr s2) (fun a2 z6 z7 z8 z9 h3 e2 => next a2 z6 z7 z8 z9 h3 ?_)
        rw [e2, ea])
      refine t_X12_where_70 (by omega) ⟨M1.1, r_sideOf (by omega) M1 (by omega) ⟨_, rfl, fun z => ?_, fun _ => ⟨fun z => go _ (by rw [if_neg z]), fun z => go _ (by rw [if_pos z])⟩⟩⟩
      rw [len h1 F sd h4, nI_le_iff (by omega) (by omega)] at z
      omega
  have outer : ∀ n sd a x6 x7 x8 x9 h1, sd + n = 4 → vldG (tS S) w a → FrI (WhF y w) h h1 → St sd 0 a x6 x7 x8 x9 → foldF (rowG C T (lnW (tS S) w)) a sd n = bestG C T (lnW (tS S) w) → Ex G d mX12_where 61 [(0, .ref y), (1, .int (nI w)), (2, .int x2), (3, .int (tS S w 7)), (4, .int (tS S w 8)), (5, .int (tS S w 9)), (6, .int x6), (7, .int x7), (8, .int x8), (9, .int x9), (10, .int (nI sd))] [] h1 Q := by
    intro n
    induction n with
    | zero =>
      intro sd a x6 x7 x8 x9 h1 hn va F st eb
      obtain rfl : sd = 4 := by omega
      obtain ⟨M1, g1⟩ := md h1 F
      have eb' : a = bestG (wC S w true) (wC S w false) (lnW (tS S) w) := Eq.trans eb sh
      rcases st with ⟨s1, s2, s3, s4⟩ | ⟨s1, s2, s3, s4⟩
      · omega
      · refine t_X12_where_61 (by omega) ⟨fun _ => ⟨M1.1, r_gates (by omega) M1 (by omega) ⟨rfl, ?_⟩⟩, fun z => absurd (show (4 : Int32) ≤ nI 4 by decide) z⟩
        generalize gh : sI (sI (sI h1 (y + 13) (1608 + 12 * w + 7) (tS S w 7)) (y + 13) (1608 + 12 * w + 8) (tS S w 8)) (y + 13) (1608 + 12 * w + 9) (tS S w 9) = h2
        have F12 : FrI (WhF y w) h1 h2 := by
          rw [← gh]
          exact ((FrI.sI (P := WhF y w) h1 _ (Or.inr ⟨rfl, Or.inl rfl⟩)).tr (FrI.sI (P := WhF y w) _ _ (Or.inr ⟨rfl, Or.inr (Or.inl rfl)⟩))).tr (FrI.sI (P := WhF y w) _ _ (Or.inr ⟨rfl, Or.inr (Or.inr rfl)⟩))
        have back : ∀ k, hI h2 (y + 13) k = hI h (y + 13) k := fun k => by
          have hS : ∀ k, hI h (y + 13) k = S k := fun k => congrFun X.2.1 k
          rw [hS k, ← gh, hI_sI, hI_sI, hI_sI]
          by_cases c9 : k = 1608 + 12 * w + 9
          · rw [if_pos ⟨rfl, c9⟩, c9]
            rfl
          · rw [if_neg (fun z => c9 z.2)]
            by_cases c8 : k = 1608 + 12 * w + 8
            · rw [if_pos ⟨rfl, c8⟩, c8]
              rfl
            · rw [if_neg (fun z => c8 z.2)]
              by_cases c7 : k = 1608 + 12 * w + 7
              · rw [if_pos ⟨rfl, c7⟩, c7]
                rfl
              · rw [if_neg (fun z => c7 z.2)]
                exact g1 k (by omega)
        have fin := hQ h2 (F.tr F12) back (by rw [← eb']; exact va)
        rw [← eb'] at fin
        refine ⟨fun n => ?_, fun n => ?_⟩
        · rw [if_neg n] at fin
          rw [s2]
          exact fin
        · rw [if_pos n] at fin
          rw [s1]
          exact fin
    | succ n ih =>
      intro sd a x6 x7 x8 x9 h1 hn va F st eb
      refine t_X12_where_61 (by omega) ⟨fun z => ?_, fun _ => inner sd (by omega) (lnW (tS S) w sd) 0 a x6 x7 x8 x9 h1 (by omega) va F st (fun a' y6 y7 y8 y9 h2 ea va' F2 s2 => ?_)⟩
      · have := (nI_le_iff (a := 4) (b := sd) (by omega) (by omega)).mp z
        omega
      · rw [nI_S]
        refine ih (sd + 1) a' y6 y7 y8 y9 h2 (by omega) va' F2 (Or.inr s2) ?_
        rw [ea]
        exact eb
  have l0 := lnW_le W hw 0
  exact outer 4 0 0 (-1) 0 0 0 h rfl ⟨by omega, by show 0 % 40 < lnW (tS S) w (0 / 40); rw [show 0 / 40 = 0 by omega, show 0 % 40 = 0 by omega]; omega⟩ (FrI.rf _ h) (Or.inl ⟨rfl, rfl, rfl, rfl⟩) rfl
end WR
theorem TgF.wc {b a k : Nat} (q : TgF (b + 21) a k) : WcP b a k := by
  unfold TgF at q
  unfold WcP
  omega
set_option maxHeartbeats 1000000 in
theorem p_where (G : GG) (u0 : Nat) (h : HP) (I : Inv G u0 h) (x1 x2 : Int32) : Pr (Inv G u0) G G.1 (G.1 + 119) mX11_where mX12_where [.int x1, .int x2] h := by
  obtain ⟨s, p, I⟩ := I
  unfold Pr Inv
  generalize G.1 = b at *
  generalize hy : b + 119 = y at *
  have W := I.wf
  have kb := I.kb
  have n2 := I.now
  have B := I.bd
  have M := I.md
  obtain ⟨w7, wy⟩ := I.wy
  have ns := I.2.1.1
  have z1 : (1 : Int32).toInt = 1 := rfl
  have z0 : (0 : Int32).toInt = 0 := rfl
  have y0 : (0 : Int64).toInt = 0 := by simp
  have y1 : (1 : Int64).toInt = 1 := by simp
  have bad : ¬ (isW (said h y) x1 ∧ 0 ≤ x2.toInt ∧ x2.toInt ≤ 1) → ∃ v, some (Value.int (-1)) = some (Value.int v) ∧ Cal G 59 mX12_where [.ref y, .int x1, .int x2] h (fun r2 h2 => r2 = some (.int v) ∧ ∃ s p, InvB G u0 h2 b y s p) := fun c => ⟨_, rfl, e_X12_where (by omega) ⟨M.1, m_isWall M W (by omega) (fun _ => ⟨_, rfl, fun _ => ⟨rfl, s, p, I⟩, fun q => absurd rfl q⟩) (fun t h6 ht e w => ⟨_, rfl, fun q => absurd q (by decide), fun _ => r_in ⟨_, rfl, fun q => absurd (if10.mpr (by rw [ti64, y0, y1]; exact fun k => c ⟨⟨t, h6, ht, e, w⟩, k⟩)) q, fun _ => ⟨rfl, s, p, I⟩⟩⟩)⟩⟩
  refine e_X11_where (by omega) ⟨kb, s, n2, B.1.1, c_isWall B (by omega) (fun c => ⟨_, rfl, fun _ => bad (fun k => c k.1), fun q => absurd rfl q⟩) (fun w h6 hw30 ew w0 => ⟨_, rfl, fun q => absurd q (by decide), fun _ => ⟨fun c => bad (fun k => by rw [ti_lt, z0] at c; omega), fun c => ⟨fun c2 => ?_, fun c2 => bad (fun k => by rw [ti_le, z1] at c2; omega)⟩⟩⟩)⟩
  subst ew
  rw [ti_lt, z0] at c
  rw [ti_le, z1] at c2
  have hw : wl (tS (said h y)) w := ⟨h6, hw30, w0⟩
  refine ⟨b + 21, w7, s, n2, wy.1, s_survey (by omega) wy B.1 B.2.2.1 W (by omega) (gov_none _) (fun h1 F1 V1 => ⟨rfl, b + 21, ?_⟩)⟩
  have G1 : FrJ (WcP b) (SvR (b + 21)) h h1 := F1.weak (fun a k q => SvF.wc q) (fun _ _ q => q)
  have r7 : ∀ hh, FrJ (WcP b) (SvR (b + 21)) h hh → hR hh b 7 = some (b + 21) := fun hh F => (F.r (by unfold SvR; omega)).trans w7
  have r12 : ∀ hh, FrJ (WcP b) (SvR (b + 21)) h hh → hR hh b 12 = some s := fun hh F => (F.r (by unfold SvR; omega)).trans n2
  have kk6 := V1.1.1.1.2.2.2 (b + 27) (by omega) (by omega)
  have kk7 := V1.1.1.1.2.2.2 (b + 28) (by omega) (by omega)
  refine ⟨r7 h1 G1, V1.1.1.1.1, e_X10_clearGates (by omega) ⟨V1.1.1.1.1, b + 27, V1.1.1.1.2.1.2.2.2.2.2.1, s_fill kk6.1 kk6.2 (by omega) ⟨rfl, b + 28, V1.1.1.1.2.1.2.2.2.2.2.2, s_fill (kk7.1.up (kp_fill _ _ _ _)) kk7.2 (by omega) ⟨rfl, rfl, ?_⟩⟩⟩⟩
  have F2 : FrI (TgF (b + 21)) h1 (fillI (fillI h1 (b + 27) 160 0) (b + 28) 160 0) := (FrI.fill h1 _ (fun _ => by unfold TgF; omega)).tr (FrI.fill _ _ (fun _ => by unfold TgF; omega))
  have tgp : ∀ a k, TgF (b + 21) a k → b + 21 ≤ a ∧ a ≤ b + 21 + 7 ∧ a ≠ b + 21 + 5 := fun a k z => by unfold TgF at z; omega
  have loop : ∀ n e h2, e + n = 6 → FrI (TgF (b + 21)) h1 h2 → (∀ j, j < 160 → vldG (tS (said h y)) w j → hI h2 (b + 27) j = iI (sum1 (fun k => gE (said h y) w true j k) e) ∧ hI h2 (b + 28) j = iI (sum1 (fun k => gE (said h y) w false j k) e)) → Ex G 59 mX11_where 43 [(0, .ref b), (1, .int (nI w)), (2, .int x2), (3, .int (nI e))] [] h2 (fun r h1 => ∃ v, r = some (.int v) ∧ Cal G 59 mX12_where [.ref y, .int (nI w), .int x2] h1 (fun r2 h2 => r2 = some (.int v) ∧ ∃ s p, InvB G u0 h2 b y s p)) := by
    intro n
    induction n with
    | zero =>
      intro e h2 he F R
      obtain rfl : e = 6 := by omega
      have V2 := V1.fr F tgp
      have G2 : FrJ (WcP b) (SvR (b + 21)) h h2 := G1.tr ((F.j _).weak (fun a k q => TgF.wc q) (fun _ _ q => q))
      obtain ⟨I2, eS2⟩ := I.wc G2
      have B2 := I2.bd
      obtain ⟨q1, ⟨q2, q3, q4, q5⟩, -, -, ⟨q6, q7⟩, -, q8, -⟩ := B2.1
      refine t_X11_where_43 (by omega) ⟨fun _ => ⟨I2.kb, b + 21, r7 h2 G2, s, r12 h2 G2, q1, s + 3, q4, q6, by rw [q7]; exact vin_nI (by omega) (by omega), s + 5 + w, by rw [cl_nI (by omega)]; exact (q8 w (by omega)).1, V2.1.1.1.1, ?_⟩, fun z => absurd (show (6 : Int32) ≤ nI 6 by decide) z⟩
      have rg : ∀ m j, 0 ≤ wC (said h y) w m j ∧ wC (said h y) w m j < 1000000 := fun m j => by
        have e1 := sum1_rng (f := fun e => gE (said h y) w m j e) (m := 23976) 6 (fun e he => gE_rng W m j he)
        unfold wC
        omega
      refine s_bestGate (C := wC (said h y) w true) (T := wC (said h y) w false) (by omega) V2.1 hw (fun j _ => rg true j) (fun j _ => rg false j) (fun j hj v => (R j hj v).1) (fun j hj v => (R j hj v).2) (fun vb => ⟨_, rfl, ?_⟩)
      have b160 : bestG (wC (said h y) w true) (wC (said h y) w false) (lnW (tS (said h y)) w) < 160 := by have := vb.1; omega
      rw [show irm (nI (bestG (wC (said h y) w true) (wC (said h y) w false) (lnW (tS (said h y)) w))) 40 = nI (bestG (wC (said h y) w true) (wC (said h y) w false) (lnW (tS (said h y)) w) % 40) from nR (m := 40) (by omega) (by omega), show nI (bestG (wC (said h y) w true) (wC (said h y) w false) (lnW (tS (said h y)) w)) / 40 = nI (bestG (wC (said h y) w true) (wC (said h y) w false) (lnW (tS (said h y)) w) / 40) from nD (m := 40) (by omega) (by omega)]
      have X2 := I2.rf
      rw [eS2] at X2
      have fin : ∀ v, v = (if x2 = 0 then nI (bestG (wC (said h y) w true) (wC (said h y) w false) (lnW (tS (said h y)) w) / 40) else nI (bestG (wC (said h y) w true) (wC (said h y) w false) (lnW (tS (said h y)) w) % 40)) → Cal G 59 mX12_where [.ref y, .int (nI w), .int x2] h2 (fun r2 h2 => r2 = some (.int v) ∧ ∃ s p, InvB G u0 h2 b y s p) := fun v hv => by
        refine e_X12_where (by omega) ⟨X2.1.1, m_isWall X2.1 (by rw [eS2]; exact W) (by omega) (fun q => absurd (isW.of h6 hw30 (by rw [eS2]; exact w0)) q) (fun _ _ _ _ _ => ⟨_, rfl, fun q => absurd q (by decide), fun _ => r_in ⟨_, rfl, fun _ => X2.of (by omega) (k := 7) (by omega) rfl (by omega) ⟨_, rfl, X2.of (by omega) (k := 8) (by omega) rfl (by omega) ⟨_, rfl, X2.of (by omega) (k := 9) (by omega) rfl (by omega) ⟨_, rfl, ?_⟩⟩⟩, fun q => ?_⟩⟩)⟩
        · refine r_where61 (by omega) X2 hw (fun h3 F3 back _ => ⟨by rw [hv], s, p, ?_⟩)
          have g := I2.1.1
          refine I2.scr (((show FrI (WrP y) h2 h3 from ⟨F3.1, F3.2.1, F3.2.2.1, F3.2.2.2.1, F3.2.2.2.2.1, fun a k q => ?_⟩).j (Scr2 b)).weak (fun a k q => by unfold WrP at q; unfold Scr; omega) (fun _ _ q => q))
          by_cases c : a = y + 13
          · rw [c]
            exact back k
          · exact F3.i (fun z => by
              rcases z with z | z
              · exact q z
              · exact c z.1)
        · rw [if10, ti64, y0, y1] at q
          omega
      exact ⟨fun n => ⟨_, rfl, fin _ (by rw [if_neg n])⟩, fun n => ⟨_, rfl, fin _ (by rw [if_pos n])⟩⟩
    | succ n ih =>
      intro e h2 he F R
      have V2 := V1.fr F tgp
      have G2 : FrJ (WcP b) (SvR (b + 21)) h h2 := G1.tr ((F.j _).weak (fun a k q => TgF.wc q) (fun _ _ q => q))
      obtain ⟨q1, ⟨q2, q3, q4, q5⟩, -, -, ⟨q6, q7⟩, ⟨q9, q10⟩, q8, q11⟩ := V2.1.2.1
      obtain ⟨c1, c2⟩ := V2.1.2.2.1.2.2.2.2.2 e (by omega)
      have ke := q11 e (by omega)
      have skip : ¬ prE (said h y) w e → Ex G 59 mX11_where 43 [(0, .ref b), (1, .int (nI w)), (2, .int x2), (3, .int (nI e + 1))] [] h2 (fun r h1 => ∃ v, r = some (.int v) ∧ Cal G 59 mX12_where [.ref y, .int (nI w), .int x2] h1 (fun r2 h2 => r2 = some (.int v) ∧ ∃ s p, InvB G u0 h2 b y s p)) := fun np => by
        rw [nI_S]
        refine ih (e + 1) h2 (by omega) F (fun j hj v => ?_)
        simp only [sum1]
        rw [gE_no np, gE_no np, Int.add_zero, Int.add_zero]
        exact R j hj v
      have thw : ∀ {P : Nat → Nat → Prop}, P (s + 3) (s + 5 + w) → ∃ q40, hR h2 s 7 = some q40 ∧ Kd G h2 q40 20 ∧ vp_in (nI w) (hN h2 q40) ∧ ∃ q44, hR h2 q40 (nI w).toNatClampNeg = some q44 ∧ P q40 q44 := fun {P} hP => ⟨s + 3, q4, q6, by rw [q7]; exact vin_nI (by omega) (by omega), s + 5 + w, by rw [cl_nI (by omega)]; exact (q8 w (by omega)).1, hP⟩
      refine t_X11_where_43 (by omega) ⟨fun z => ?_, fun _ => ⟨G2.kd kb, s, r12 h2 G2, q1, s + 4, q5, q9, by rw [q10]; exact vin_nI (by omega) (by omega), s + 36 + e, by rw [cl_nI (by omega)]; exact ke.1, ke.2, fun z => ?_, fun z => ?_⟩⟩
      · have := (nI_le_iff (a := 6) (b := e) (by omega) (by omega)).mp z
        omega
      · rw [c1] at z
        exact skip (fun k => k.1 z)
      · rw [c1] at z
        obtain ⟨e1, ej, ⟨o16, o1, o2⟩, t16, t1, t2⟩ := W.er (show e < 6 by omega) z
        have fj := c2 e1
        have fo1 : hI h2 (s + 36 + e) 2 = nI (eO (said h y) e % 40) := by rw [fj 2 (by omega) (by omega), (ej 2 (by omega) (by omega)).1, o1]
        have fo2 : hI h2 (s + 36 + e) 3 = nI (eO (said h y) e / 40) := by rw [fj 3 (by omega) (by omega), (ej 3 (by omega) (by omega)).1, o2]
        have ft1 : hI h2 (s + 36 + e) 4 = nI (eT (said h y) e % 40) := by rw [fj 4 (by omega) (by omega), (ej 4 (by omega) (by omega)).1, t1]
        have ft2 : hI h2 (s + 36 + e) 5 = nI (eT (said h y) e / 40) := by rw [fj 5 (by omega) (by omega), (ej 5 (by omega) (by omega)).1, t2]
        have s0 : hI h2 s 0 = said h y 0 := V2.1.2.2.1.1 0 (by omega)
        have s1 : hI h2 s 1 = said h y 1 := V2.1.2.2.1.1 1 (by omega)
        have k9 := (q8 w (by omega)).2
        refine e_X6_hasEnds (by omega) ⟨ke.2, q1, s_hasCell q1 ⟨_, rfl, fun k => ?_, fun k => s_hasCell q1 ⟨_, rfl, fun k2 => ?_, fun k2 => ?_⟩⟩⟩
        · rw [if10, s0, s1, fo1, fo2, inB_c o16] at k
          exact ⟨_, rfl, fun _ => skip (fun p => k p.2.1.1), fun q => absurd rfl q⟩
        · rw [if10, s0, s1, ft1, ft2, inB_c t16] at k2
          exact ⟨_, rfl, fun _ => skip (fun p => k2 p.2.1.2), fun q => absurd rfl q⟩
        · have k := Decidable.not_not.mp (fun z => k (if10.mpr z))
          have k2 := Decidable.not_not.mp (fun z => k2 (if10.mpr z))
          rw [s0, s1, fo1, fo2, inB_c o16] at k
          rw [s0, s1, ft1, ft2, inB_c t16] at k2
          have b1 := wIn_has V2.1 hw o16
          have b2 := wIn_has V2.1 hw t16
          have cv : (if hasB (tg h2 s) w (nI (eO (said h y) e % 40)) (nI (eO (said h y) e / 40)) = true then (1 : Int32) else 0) = (if hasB (tg h2 s) w (nI (eT (said h y) e % 40)) (nI (eT (said h y) e / 40)) = true then (1 : Int32) else 0) ↔ ¬ crW (tS (said h y)) w (eO (said h y) e) (eT (said h y) e) := by
            unfold crW
            rw [← b1, ← b2]
            cases hasB (tg h2 s) w (nI (eO (said h y) e % 40)) (nI (eO (said h y) e / 40)) <;> cases hasB (tg h2 s) w (nI (eT (said h y) e % 40)) (nI (eT (said h y) e / 40)) <;> simp
          refine ⟨_, rfl, fun q => absurd q (by decide), fun _ => ⟨s, r12 h2 G2, q1, thw ⟨k9, e_X9_parts (by omega) ⟨ke.2, k9, s_has k9 ⟨_, rfl, s_has k9 ⟨_, rfl, fun k3 => ?_, fun k3 => ?_⟩⟩⟩⟩⟩⟩
          · rw [fo1, fo2, ft1, ft2, cv] at k3
            exact ⟨_, rfl, fun _ => skip (fun p => k3 p.2.2), fun q => absurd rfl q⟩
          · rw [fo1, fo2, ft1, ft2, cv] at k3
            have pr : prE (said h y) w e := ⟨z, ⟨k, k2⟩, Classical.not_not.mp k3⟩
            refine ⟨_, rfl, fun q => absurd q (by decide), fun _ => ⟨b + 21, r7 h2 G2, s, r12 h2 G2, q1, thw ⟨V2.1.1.1.1, s_tryGates (by omega) V2 hw (by omega) z (fun h3 F3 V3 U => ⟨rfl, ?_⟩)⟩⟩⟩
            rw [nI_S]
            refine ih (e + 1) h3 (by omega) (F.tr F3) (fun j hj v => ?_)
            obtain ⟨u1, u2⟩ := U j hj v
            obtain ⟨r1, r2⟩ := R j hj v
            simp only [sum1]
            rw [gE_yes pr, gE_yes pr, iI_add, iI_add, ← r1, ← r2]
            exact ⟨u1, u2⟩
  refine loop 6 0 _ rfl F2 (fun j hj v => ⟨?_, ?_⟩)
  · rw [hI_fill, if_neg (fun z => by omega), hI_fill, if_pos ⟨rfl, hj⟩]
    rfl
  · rw [hI_fill, if_pos ⟨rfl, hj⟩]
    rfl
