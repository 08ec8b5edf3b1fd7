/-! ===== ways of the reference: walking with coins ===== -/
noncomputable def fLb (A : Nat → Nat → Int32) (f : Int32) (o : Nat) (b : BS) (c : Nat) : Int := if b.1 c = -1 then -1 else b.1 c + 10000 * coi A f o c
/-- steps and coins of a way -/
noncomputable def wyV (S : Nat → Int32) (f : Int32) (o c : Nat) : Int := if dR S 0 o c = -1 then -1 else dR S 0 o c + 10000 * coi (tS S) f o c
def WkR (h : HP) (y : Nat) (A : Nat → Nat → Int32) (f : Int32) (o : Nat) (b : BS) : Prop := (∀ c, c < 1600 → hI h (y + 16) c = iI (fLb A f o b c)) ∧ (∀ i, i < b.2.2 → hI h (y + 17) i = nI (b.2.1 i)) ∧ ∀ c, c < 1600 → b.1 c = -1 → hI h (y + 18) c = 0
def WkP (y a : Nat) (_ : Nat) : Prop := a = y + 16 ∨ a = y + 17 ∨ a = y + 18
section RW
variable {G : GG} {d : Nat} {y : Nat} {S : Nat → Int32} {Q : Option Value → HP → Prop}
theorem lab_dry {g o n : Nat} {b : BS} (L : Ld40 S) (I : BI0 (Ed S g) o n b) (nr : ¬ rv S o) (il : inLd S o) {c : Nat} (h : b.1 c ≠ -1) : ¬ rv S c ∧ inLd S c := by
  by_cases e : c = o
  · rw [e]
    exact ⟨nr, il⟩
  · obtain ⟨p, s, -, p2, p3, -⟩ := I.2.2.2.2.2.2.2 c h e
    rw [← p3]
    exact ⟨p2.2.2.1, (p2.1.nb L).1⟩
theorem fLb_rng {A : Nat → Nat → Int32} {f : Int32} {o n : Nat} {E : Nat → Nat → Prop} {b : BS} (T : GtA A) (I : BI0 E o n b) (c : Nat) : -1 ≤ fLb A f o b c ∧ fLb A f o b c < 300000000 ∧ (fLb A f o b c = -1 ↔ b.1 c = -1) := by
  have l := I.lab c
  have r := coi_rng (f := f) (o := o) (c := c) T
  unfold fLb
  split <;> omega
theorem iI_mul (a b : Int) : iI (a * b) = iI a * iI b := Int32.ofInt_mul a b
set_option maxHeartbeats 1000000 in
theorem r_walks {h : HP} (hd : 5 ≤ d) (X : RfX G h y S) (P : PtA (tS S) 30 (hI h (y + 15))) {o : Nat} {f : Int32} (il : inLd S o) (nr : ¬ rv S o) (hQ : ∀ h2, FrI (WkP y) h h2 → (∀ c, c < 1600 → hI h2 (y + 16) c = iI (wyV S f o c)) → Q none h2) : Cal G d mX12_walks [.ref y, .int f, .int (nI o)] h Q := by
  have W := X.2.2.1
  have L := W.l40
  have T := W.gt
  have ge := Ed.ged (g := 0) L
  have ho := il.lt L
  have pf : ∀ a k, WkP y a k → a ≠ y + 13 := fun a k e => by unfold WkP at e; omega
  have fr : ∀ h1, FrI (WkP y) h h1 → RfX G h1 y S ∧ PtA (tS S) 30 (hI h1 (y + 15)) := fun h1 F => by
    refine ⟨X.fr F pf, ?_⟩
    have e : hI h1 (y + 15) = hI h (y + 15) := funext (fun k => F.i (by unfold WkP; omega))
    rw [e]
    exact P
  refine e_X12_walks ?_
  unfold T_X12_walks
  -- one step: the edge is there
  have inner : ∀ n c, c < 1600 → n < 1600 → ∀ (m k : Nat) (b : BS) (hh : HP), k + m = 4 → FrI (WkP y) h hh → BJ0 (Ed S 0) o n k b → b.2.1 n = c → WkR hh y (tS S) f o b → (∀ h3, FrI (WkP y) h h3 → WkR h3 y (tS S) f o (foldF (bst (Ed S 0) c) b k m) → Ex G d mX12_walks 48 [(0, .ref y), (1, .int f), (2, .int (nI o)), (3, .int (nI ((n + 1) % 1600))), (4, .int (nI ((foldF (bst (Ed S 0) c) b k m).2.2 - (n + 1))))] [] h3 Q) → Ex G d mX12_walks 83 [(0, .ref y), (1, .int f), (2, .int (nI o)), (3, .int (nI ((n + 1) % 1600))), (4, .int (nI (b.2.2 - (n + 1)))), (5, .int (nI c)), (6, .int (nI k))] [] hh Q := by
    intro n c hc hn m
    induction m with
    | zero =>
      intro k b hh hk F J ec K next
      obtain rfl : k = 4 := by omega
      exact t_X12_walks_83 (by omega) ⟨fun _ => next hh F K, fun z => absurd (show (4 : Int32) ≤ nI 4 by decide) z⟩
    | succ m ih =>
      intro k b hh hk F J ec K next
      obtain ⟨X1, P1⟩ := fr hh F
      obtain ⟨-, ⟨m1, m2, m3⟩, ⟨n1, n2, n3⟩, o1, o2, o3⟩ := X1.1.at
      have lc : 0 ≤ b.1 c := by
        have := (J.1.2.1 n J.2.1).2.1
        rw [ec] at this
        exact this
      have dry := lab_dry L J.1 nr il (c := c) (by omega)
      have st := J.step ge (show k < 4 by omega)
      rw [ec] at st
      have lb := J.1.lab
      have ble := J.1.le
      have skip : bst (Ed S 0) c k b = b → Ex G d mX12_walks 83 [(0, .ref y), (1, .int f), (2, .int (nI o)), (3, .int (nI ((n + 1) % 1600))), (4, .int (nI (b.2.2 - (n + 1)))), (5, .int (nI c)), (6, .int (nI k + 1))] [] hh Q := fun e => by
        rw [nI_S]
        rw [e] at st
        refine ih (k + 1) b hh (by omega) F st.1 ec K ?_
        simp only [foldF] at next
        rw [e] at next
        exact next
      -- the edge is there, with its toll
      have edge : Ed S 0 c k → ∀ tl : Int, 0 ≤ tl → tl ≤ 999 → (b.1 (nbC c k) = -1 → coi (tS S) f o (nbC c k) = coi (tS S) f o c + tl) → coi (tS S) f o (nbC c k) ≤ coi (tS S) f o c + tl → ∀ z : Int32, z = iI tl → (∃ q13, hR hh y 44 = some q13 ∧ Kd G hh q13 14 ∧ vp_in (nI (nbC c k)) (hN hh q13) ∧ (((hI hh q13 (nI (nbC c k)).toNatClampNeg) < 0 → Ex G d mX12_walks 165 [(0, .ref y), (1, .int f), (2, .int (nI o)), (3, .int (nI ((n + 1) % 1600))), (4, .int (nI (b.2.2 - (n + 1)))), (5, .int (nI c)), (6, .int (nI k)), (7, .int (nI (nbC c k))), (8, .int z)] [] hh Q) ∧ (¬ (hI hh q13 (nI (nbC c k)).toNatClampNeg) < 0 → vp_in (nI (nbC c k)) (hN hh q13) ∧ vp_in (nI c) (hN hh q13) ∧ (((((hI hh q13 (nI c).toNatClampNeg) + 1) + (10000 * z)) < (hI hh q13 (nI (nbC c k)).toNatClampNeg) → Ex G d mX12_walks 165 [(0, .ref y), (1, .int f), (2, .int (nI o)), (3, .int (nI ((n + 1) % 1600))), (4, .int (nI (b.2.2 - (n + 1)))), (5, .int (nI c)), (6, .int (nI k)), (7, .int (nI (nbC c k))), (8, .int z)] [] hh Q) ∧ (¬ (((hI hh q13 (nI c).toNatClampNeg) + 1) + (10000 * z)) < (hI hh q13 (nI (nbC c k)).toNatClampNeg) → Ex G d mX12_walks 83 [(0, .ref y), (1, .int f), (2, .int (nI o)), (3, .int (nI ((n + 1) % 1600))), (4, .int (nI (b.2.2 - (n + 1)))), (5, .int (nI c)), (6, .int (nI k + 1))] [] hh Q))))) := by
        intro hE tl t0 t9 cnew cle z ez
        have d16 := (ge c k (by omega) hE).2
        have vd : vp_in (nI (nbC c k)) (hN hh (y + 16)) := by rw [m3]; exact vin_nI d16 (by omega)
        have vc : vp_in (nI c) (hN hh (y + 16)) := by rw [m3]; exact vin_nI hc (by omega)
        have rd := fLb_rng (f := f) T J.1 (nbC c k)
        have rc := fLb_rng (f := f) T J.1 c
        have qd := coi_rng (f := f) (o := o) (c := nbC c k) T
        have qc := coi_rng (f := f) (o := o) (c := c) T
        have sumv : hI hh (y + 16) c + 1 + 10000 * z = iI (fLb (tS S) f o b c + 1 + 10000 * tl) := by
          rw [K.1 c hc, ez, iI_add, iI_add, iI_mul]
          rfl
        have ec0 : fLb (tS S) f o b c = b.1 c + 10000 * coi (tS S) f o c := by
          unfold fLb
          rw [if_neg (by omega)]
        refine ⟨y + 16, m1, m2, vd, ?_⟩
        rw [cl_nI (show nbC c k < 2147483648 by omega), cl_nI (show c < 2147483648 by omega), sumv, K.1 _ d16]
        refine ⟨fun w => ?_, fun w => ⟨vd, vc, fun w2 => ?_, fun w2 => ?_⟩⟩
        · rw [ti_lt, ti_iI (by omega) (by omega), show (0 : Int32).toInt = 0 from rfl] at w
          have z' : b.1 (nbC c k) = -1 := rd.2.2.mp (by omega)
          have rm := J.1.room d16 z'
          have n1600 : (n + 1) % 1600 = n + 1 := by have := J.2.1; omega
          have e := bst_yes hE z'
          simp only [foldF] at next
          rw [e] at next st
          have vd8 : vp_in (nI (nbC c k)) (hN hh (y + 18)) := by rw [o3]; exact vin_nI d16 (by omega)
          refine t_X12_walks_165 ⟨X1.1.1, y + 16, m1, m2, vc, vd, y + 18, o1, o2, vd8, ?_⟩
          rw [cl_nI (show nbC c k < 2147483648 by omega), cl_nI (show c < 2147483648 by omega), sumv, hI_ne _ _ (Or.inl (by omega)), K.2.2 _ d16 z']
          refine ⟨fun _ => ⟨vd8, fun h13 g13 => ⟨y + 17, ?_, ?_, ?_, ?_⟩⟩, fun w3 => absurd rfl w3⟩
          · rw [g13, hR_sI, hR_sI]
            exact n1
          · rw [g13]
            exact n2.sI.sI
          · rw [g13, n1600, nA, show irm (nI (n + 1 + (b.2.2 - (n + 1)))) 1600 = nI ((n + 1 + (b.2.2 - (n + 1))) % 1600) from nR (m := 1600) (by omega) (by omega)]
            show vp_in _ (hN hh (y + 17))
            rw [n3]
            exact vin_nI (by omega) (by omega)
          · have e2 : irm (nI ((n + 1) % 1600) + nI (b.2.2 - (n + 1))) 1600 = nI b.2.2 := by
              rw [n1600, nA, show irm (nI (n + 1 + (b.2.2 - (n + 1)))) 1600 = nI ((n + 1 + (b.2.2 - (n + 1))) % 1600) from nR (m := 1600) (by omega) (by omega)]
              congr 1
              have := J.2.1
              omega
            rw [e2, cl_nI (by omega), nI_S, nI_S, show b.2.2 - (n + 1) + 1 = (badd c k b).2.2 - (n + 1) from by show _ = b.2.2 + 1 - (n + 1); have := J.2.1; omega]
            refine ih (k + 1) (badd c k b) _ (by omega) (F.tr ?_) st.1 st.2.1 ⟨fun e3 he3 => ?_, fun i hi => ?_, fun e3 he3 hz => ?_⟩ next
            · rw [g13]
              exact ((FrI.sI hh _ (Or.inl rfl)).tr (FrI.sI _ _ (Or.inr (Or.inr rfl)))).tr (FrI.sI _ _ (Or.inr (Or.inl rfl)))
            · rw [hI_ne _ _ (Or.inl (by omega)), g13, hI_ne _ _ (Or.inl (by omega))]
              show _ = iI (if (if e3 = nbC c k then b.1 c + 1 else b.1 e3) = -1 then -1 else (if e3 = nbC c k then b.1 c + 1 else b.1 e3) + 10000 * coi (tS S) f o e3)
              by_cases w3 : e3 = nbC c k
              · rw [if_pos w3, if_neg (by omega), w3, hI_eq, cnew z', ec0]
                congr 1
                omega
              · rw [if_neg w3, hI_ne _ _ (Or.inr w3)]
                exact K.1 e3 he3
            · have hi' : i < b.2.2 + 1 := hi
              show _ = nI (if i = b.2.2 then nbC c k else b.2.1 i)
              by_cases w3 : i = b.2.2
              · rw [if_pos w3, w3, hI_eq]
              · rw [if_neg w3, hI_ne _ _ (Or.inr w3), g13, hI_ne _ _ (Or.inl (by omega)), hI_ne _ _ (Or.inl (by omega))]
                exact K.2.1 i (by omega)
            · have hz' : (if e3 = nbC c k then b.1 c + 1 else b.1 e3) = -1 := hz
              by_cases w3 : e3 = nbC c k
              · rw [if_pos w3] at hz'
                omega
              · rw [if_neg w3] at hz'
                rw [hI_ne _ _ (Or.inl (by omega)), g13, hI_ne _ _ (Or.inr w3), hI_ne _ _ (Or.inl (by omega))]
                exact K.2.2 e3 he3 hz'
        · rw [ti_lt, ti_iI (by omega) (by omega), show (0 : Int32).toInt = 0 from rfl] at w
          rw [ti_lt, ti_iI (by omega) (by omega), ti_iI (by omega) (by omega)] at w2
          have z' : b.1 (nbC c k) ≠ -1 := fun q => w (by have := rd.2.2.mpr q; omega)
          have ed0 : fLb (tS S) f o b (nbC c k) = b.1 (nbC c k) + 10000 * coi (tS S) f o (nbC c k) := by
            unfold fLb
            rw [if_neg z']
          have lab : b.1 (nbC c k) ≤ b.1 c + 1 := by
            rcases J.1.2.2.1 (nbC c k) with q | ⟨i, hi, q⟩
            · exact absurd q z'
            · have := J.1.2.2.2.2.1 i hi J.2.1
              rw [q, ec] at this
              exact this
          omega
        · refine skip (bst_no (fun q => ?_))
          rw [ti_lt, ti_iI (by omega) (by omega), show (0 : Int32).toInt = 0 from rfl] at w
          have := rd.2.2.mpr q.2
          omega
      refine t_X12_walks_83 (by omega) ⟨fun z => ?_, fun _ => ⟨X1.1.1, r_beside (by omega) X1 dry.2 (by omega) (fun hp nrd => ⟨_, rfl, fun _ => ?_, fun z => ?_⟩) (fun z => ⟨_, rfl, fun q => absurd q (by decide), fun _ => skip (bst_no (fun w => z ⟨w.1.1, w.1.2.2.1⟩))⟩)⟩⟩
      · have := (nI_le_iff (a := 4) (b := k) (by omega) (by omega)).mp z
        omega
      · have edOf : (∀ w, wl (tS S) w → crW (tS S) w c (nbC c k) → gp (tS S) w c k) → Ed S 0 c k := fun q => ⟨hp, dry.1, nrd, fun w hw _ cr => q w hw cr⟩
        refine r_tollOf (by omega) X1 P1 hp (fun n0 => ⟨_, rfl, fun z => absurd z (by decide), fun _ => ?_⟩) (fun w hw cr gg => ⟨_, rfl, fun z => ?_, fun _ => ?_⟩) (fun w hw cr gg => ⟨_, rfl, fun _ => skip (bst_no (fun q => gg (q.1.2.2.2 w hw (by have := hw.1; omega) cr))), fun z => absurd rfl z⟩)
        · have es := coi_same (f := f) (o := o) n0
          exact edge (edOf (fun w hw cr => absurd cr (n0 w hw))) 0 (by omega) (by omega) (fun _ => by omega) (by omega) 0 rfl
        · have t := tlc_rng (f := f) T hw
          rw [iI_m1 (by omega) (by omega)] at z
          omega
        · have t := tlc_rng (f := f) T hw
          have hE := edOf (fun u hu cu => by
            obtain rfl := cr_one W L hp hw hu cr cu
            exact gg)
          have cs := coi_step (f := f) (o := o) hw cr (fun u hu cu => cr_one W L hp hw hu cr cu)
          refine edge hE _ t.1 t.2 (fun z => cs.1 (new_far L J.1 hE (by omega) z hw (by have := hw.1; omega) cr)) ?_ _ rfl
          by_cases q : crW (tS S) w o c
          · have := cs.2 q
            omega
          · have := cs.1 q
            omega
      · refine absurd ?_ z
        have d16 := (hp.nb L).1.lt L
        rw [ti_le, ti_nI (by omega), show (0 : Int32).toInt = 0 from rfl]
        omega
  have loop : ∀ m n h1, n + m = 1600 → FrI (WkP y) h h1 → BI0 (Ed S 0) o n (bfN (Ed S 0) o n) → WkR h1 y (tS S) f o (bfN (Ed S 0) o n) → Ex G d mX12_walks 48 [(0, .ref y), (1, .int f), (2, .int (nI o)), (3, .int (nI (n % 1600))), (4, .int (nI ((bfN (Ed S 0) o n).2.2 - n)))] [] h1 Q := by
    intro m
    have fin : ∀ n h1, FrI (WkP y) h h1 → BI0 (Ed S 0) o n (bfN (Ed S 0) o n) → WkR h1 y (tS S) f o (bfN (Ed S 0) o n) → ¬ n < (bfN (Ed S 0) o n).2.2 → Q none h1 := fun n h1 F I K e => hQ h1 F (fun c hc => by
      rw [K.1 c hc]
      unfold fLb wyV
      rw [dR_no nr, dst_of I e])
    induction m with
    | zero =>
      intro n h1 hn F I K
      have le := I.le
      refine t_X12_walks_48 ⟨fun _ => fin n h1 F I K (by omega), fun z => ?_⟩
      rw [show (bfN (Ed S 0) o n).2.2 - n = 0 by omega] at z
      exact absurd (show nI 0 ≤ 0 by decide) z
    | succ m ih =>
      intro n h1 hn F I K
      have le := I.le
      obtain ⟨X1, P1⟩ := fr h1 F
      obtain ⟨-, ⟨m1, m2, m3⟩, ⟨n1, n2, n3⟩, o1, o2, o3⟩ := X1.1.at
      have i1 := I.1.1
      have n16 : n % 1600 = n := by omega
      refine t_X12_walks_48 ⟨fun z => fin n h1 F I K (fun q => ?_), fun z => ?_⟩
      · have := (nI_le_iff (b := 0) (by omega) (by omega)).mp z
        omega
      · have lt : n < (bfN (Ed S 0) o n).2.2 := by
          refine Classical.byContradiction (fun q => z ?_)
          rw [show (bfN (Ed S 0) o n).2.2 - n = 0 by omega]
          decide
        have c16 := (I.2.1 n lt).1
        rw [n16, cl_nI (by omega)]
        refine ⟨X1.1.1, y + 17, n1, n2, by rw [n3]; exact vin_nI (by omega) (by omega), y + 18, o1, o2, ?_, ?_⟩
        · rw [K.2.1 n lt, o3]
          exact vin_nI c16 (by omega)
        · rw [K.2.1 n lt, cl_nI (by omega), nI_S, show irm (nI (n + 1)) 1600 = nI ((n + 1) % 1600) from nR (m := 1600) (by omega) (by omega), show (-1 : Int32) = -(nI 1) from rfl, ← Int32.sub_eq_add_neg, nS (by omega), show (bfN (Ed S 0) o n).2.2 - n - 1 = (bfN (Ed S 0) o n).2.2 - (n + 1) by omega]
          have nx := bi_next ge I lt
          refine inner n _ c16 (by omega) 4 0 _ _ rfl (F.tr (FrI.sI h1 _ (Or.inr (Or.inr rfl)))) (I.start lt) rfl ⟨fun c hc => ?_, fun i hi => ?_, fun c hc hz => ?_⟩ (fun h3 F3 K3 => ?_)
          · rw [hI_ne _ _ (Or.inl (by omega))]
            exact K.1 c hc
          · rw [hI_ne _ _ (Or.inl (by omega))]
            exact K.2.1 i hi
          · by_cases w : c = (bfN (Ed S 0) o n).2.1 n
            · rw [w, hI_eq]
              rfl
            · rw [hI_ne _ _ (Or.inr w)]
              exact K.2.2 c hc hz
          · rw [← bfN_S lt] at K3 ⊢
            exact ih (n + 1) h3 (by omega) F3 nx.1 K3
  -- the rows are cleared
  have clr : ∀ n i h1, i + n = 1600 → FrI (WkP y) h h1 → (∀ c, c < i → hI h1 (y + 16) c = -1 ∧ hI h1 (y + 18) c = 0) → Ex G d mX12_walks 2 [(0, .ref y), (1, .int f), (2, .int (nI o)), (3, .int (nI i))] [] h1 Q := by
    intro n
    induction n with
    | zero =>
      intro i h1 hi F Z
      obtain rfl : i = 1600 := by omega
      obtain ⟨X1, P1⟩ := fr h1 F
      obtain ⟨-, ⟨m1, m2, m3⟩, ⟨n1, n2, n3⟩, o1, o2, o3⟩ := X1.1.at
      refine t_X12_walks_2 ⟨fun _ => ⟨X1.1.1, y + 16, m1, m2, by rw [m3]; exact vin_nI ho (by omega), y + 17, by rw [hR_sI]; exact n1, n2.sI, by show vp_in _ (hN h1 (y + 17)); rw [n3]; exact vin_nI (k := 0) (by omega) (by omega), ?_⟩, fun z => absurd (show (1600 : Int32) ≤ nI 1600 by decide) z⟩
      rw [cl_nI (by omega)]
      refine loop 1600 0 _ rfl (F.tr ((FrI.sI h1 _ (Or.inl rfl)).tr (FrI.sI _ _ (Or.inr (Or.inl rfl))))) (bi_ini ho) ⟨fun c hc => ?_, fun i hi => ?_, fun c hc hz => ?_⟩
      · rw [hI_ne _ _ (Or.inl (by omega))]
        unfold fLb
        show _ = iI (if (if c = o then (0 : Int) else -1) = -1 then -1 else (if c = o then (0 : Int) else -1) + 10000 * coi (tS S) f o c)
        by_cases w : c = o
        · rw [if_pos w, if_neg (by omega), w, hI_eq, coi_self]
          rfl
        · rw [if_neg w, if_pos rfl, hI_ne _ _ (Or.inr w)]
          exact (Z c hc).1
      · have hi' : i < 1 := hi
        obtain rfl : i = 0 := by omega
        rw [hI_eq]
        rfl
      · rw [hI_ne _ _ (Or.inl (by omega)), hI_ne _ _ (Or.inl (by omega))]
        exact (Z c hc).2
    | succ n ih =>
      intro i h1 hi F Z
      obtain ⟨X1, P1⟩ := fr h1 F
      obtain ⟨-, ⟨m1, m2, m3⟩, ⟨n1, n2, n3⟩, o1, o2, o3⟩ := X1.1.at
      refine t_X12_walks_2 ⟨fun z => ?_, fun _ => ⟨X1.1.1, y + 16, m1, m2, by rw [m3]; exact vin_nI (by omega) (by omega), y + 18, by rw [hR_sI]; exact o1, o2.sI, by show vp_in _ (hN h1 (y + 18)); rw [o3]; exact vin_nI (by omega) (by omega), ?_⟩⟩
      · have := (nI_le_iff (a := 1600) (b := i) (by omega) (by omega)).mp z
        omega
      · rw [cl_nI (by omega), nI_S]
        refine ih (i + 1) _ (by omega) (F.tr ((FrI.sI h1 _ (Or.inl rfl)).tr (FrI.sI _ _ (Or.inr (Or.inr rfl))))) (fun c hc => ?_)
        by_cases w : c = i
        · rw [w, hI_ne _ _ (Or.inl (by omega)), hI_eq, hI_eq]
          exact ⟨rfl, rfl⟩
        · rw [hI_ne _ _ (Or.inl (by omega)), hI_ne _ _ (Or.inr w), hI_ne _ _ (Or.inr w), hI_ne _ _ (Or.inl (by omega))]
          exact Z c (by omega)
  exact clr 1600 0 h rfl (FrI.rf _ h) (fun c hc => by omega)
theorem dst_rv {g o t : Nat} (L : Ld40 S) (ho : o < 1600) (nr : ¬ rv S o) (r : rv S t) : dst (Ed S g) o t = -1 := by
  have ge := Ed.ged (g := g) L
  rcases dst_rng ge ho t with e | ⟨e0, -, -⟩
  · exact e
  · obtain ⟨k, hk⟩ : ∃ k : Nat, dst (Ed S g) o t = k := ⟨(dst (Ed S g) o t).toNat, by omega⟩
    have := dst_rch ge ho k t hk
    cases k with
    | zero =>
      have e : t = o := this
      rw [e] at r
      exact absurd r nr
    | succ k =>
      obtain ⟨p, s, -, -, p3, p4⟩ := this
      rw [← p4] at r
      exact absurd r p3.2.2.1
theorem wyV_rng {f : Int32} {o c : Nat} (W : WF S) (ho : o < 1600) : wyV S f o c = -1 ∨ (0 ≤ wyV S f o c ∧ wyV S f o c < 300000000) := by
  have r := coi_rng (f := f) (o := o) (c := c) W.gt
  unfold wyV
  rcases dR_rng (g := 0) (c := c) W.l40 ho with e | e
  · rw [if_pos e]
    exact Or.inl rfl
  · rw [if_neg (by omega)]
    omega
theorem r_wayOf {h : HP} (hd : 6 ≤ d) (X : RfX G h y S) (P : PtA (tS S) 30 (hI h (y + 15))) {o t : Nat} {f : Int32} (ho : o < 1600) (ht : t < 1600) (h0 : ¬ (inLd S o ∧ inLd S t) → Q (some (.int (-1))) h) (h1 : inLd S o → inLd S t → ∀ h2, FrI (WkP y) h h2 → (wyV S f o t ≠ -1 → ∀ c, c < 1600 → hI h2 (y + 16) c = iI (wyV S f o c)) → Q (some (.int (iI (wyV S f o t)))) h2) : Cal G d mX12_wayOf [.ref y, .int f, .int (nI (o % 40)), .int (nI (o / 40)), .int (nI (t % 40)), .int (nI (t / 40))] h Q := by
  have W := X.2.2.1
  have L := W.l40
  have e0 := X.2.1
  have WR := W.r (by have := X.2.2.2; omega)
  have inb : ∀ c, c < 1600 → (inB (S 0) (S 1) (nI (c % 40)) (nI (c / 40)) = true ↔ inLd S c) := fun c hc => by
    unfold inB inLd
    rw [decide_eq_true_eq, ti_le, ti_lt, ti_le, ti_lt, ti_nI (by omega), ti_nI (by omega), show (0 : Int32).toInt = 0 from rfl]
    omega
  have riv' : ∀ c, c < 1600 → inLd S c → ∀ {Q : Option Value → HP → Prop} {d : Nat}, 1 ≤ d → (rv S c → Q (some (.int 1)) h) → (¬ rv S c → Q (some (.int 0)) h) → Cal G d mX12_isRiver [.ref y, .int (nI (c % 40)), .int (nI (c / 40))] h Q := fun c hc nl {Q d} hd q1 q0 => by
    refine r_isRiver hd X.1 (by rw [e0]; exact WR) (fun v hv hv2 => ?_)
    rw [e0] at hv2
    have key : v = 1 ↔ rv S c := by
      rw [hv2]
      unfold inLd at nl
      have er : riv S (c % 40) (c / 40) = 1 ↔ rv S c := by
        unfold riv rv
        rw [show 40 * (c / 40) + c % 40 = c by omega]
      constructor
      · rintro ⟨i, j, q1, q2, q3, q4, q5⟩
        have i40 : i < 40 := by unfold Ld40 at L; omega
        have j40 : j < 40 := by unfold Ld40 at L; omega
        rw [nI_eq_iff (by omega) (by omega)] at q1 q2
        subst q1 q2
        exact er.mp q5
      · intro q
        exact ⟨_, _, rfl, rfl, nl.1, nl.2, er.mpr q⟩
    rcases hv with e | e
    · rw [e]
      refine q0 (fun q => ?_)
      rw [key.mpr q] at e
      exact absurd e (by decide)
    · rw [e]
      exact q1 (key.mp e)
  have il : ∀ c, c < 1600 → ∀ {Q : Option Value → HP → Prop} {d : Nat}, 1 ≤ d → (inLd S c → Q (some (.int 1)) h) → (¬ inLd S c → Q (some (.int 0)) h) → Cal G d mX12_isInLand [.ref y, .int (nI (c % 40)), .int (nI (c / 40))] h Q := fun c hc {Q d} hd q1 q0 => by
    refine r_isInLand hd X.1 (by rw [e0]; exact W.1.1.1) (by rw [e0]; exact W.1.1.2.1) ?_
    rw [e0]
    by_cases q : inLd S c
    · rw [if_pos ((inb c hc).mpr q)]
      exact q1 q
    · rw [if_neg (fun z => q ((inb c hc).mp z))]
      exact q0 q
  refine e_X12_wayOf (by omega) ⟨X.1.1, il o ho (by omega) (fun io => ⟨1, rfl, fun q => absurd q (by decide), fun _ => il t ht (by omega) (fun it => ⟨1, rfl, fun q => absurd q (by decide), fun _ => riv' o ho io (by omega) (fun r => ⟨1, rfl, fun _ => ?_, fun q => absurd q (by decide)⟩) (fun nr => ⟨0, rfl, fun q => absurd rfl q, fun _ => riv' t ht it (by omega) (fun r => ⟨1, rfl, fun q => absurd q (by decide), fun _ => ?_⟩) (fun _ => ⟨0, rfl, fun _ => ?_, fun q => absurd rfl q⟩)⟩)⟩) (fun it => ⟨0, rfl, fun _ => h0 (fun q => it q.2), fun q => absurd rfl q⟩)⟩) (fun io => ⟨0, rfl, fun _ => h0 (fun q => io q.1), fun q => absurd rfl q⟩)⟩
  · have e : wyV S f o t = -1 := by
      unfold wyV
      rw [dR_rv r, if_pos rfl]
    have := h1 io it h (FrI.rf _ h) (fun q => absurd e q)
    rw [e] at this
    exact this
  · have e : wyV S f o t = -1 := by
      unfold wyV
      rw [dR_no nr, dst_rv L ho nr r, if_pos rfl]
    have := h1 io it h (FrI.rf _ h) (fun q => absurd e q)
    rw [e] at this
    exact this
  · have ex : ∀ c, c < 1600 → 40 * nI (c / 40) + nI (c % 40) = nI c := fun c hc => by rw [e40', show 40 * (c / 40) + c % 40 = c by omega]
    rw [ex o ho, ex t ht]
    refine r_walks (by omega) X P io nr (fun h2 F2 K2 => ⟨rfl, ?_⟩)
    have X2 := X.fr F2 (fun a k e => by unfold WkP at e; omega)
    obtain ⟨-, ⟨m1, m2, m3⟩, -⟩ := X2.1.at
    refine ⟨y + 16, m1, m2, by rw [m3]; exact vin_nI ht (by omega), ?_⟩
    rw [cl_nI (by omega), K2 t ht]
    exact h1 io it h2 F2 (fun _ => K2)
end RW
