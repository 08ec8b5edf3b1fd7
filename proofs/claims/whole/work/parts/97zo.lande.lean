/-! ===== a land is read by the class: all of it ===== -/
def knL (B : Nat → Int32) (n p : Nat) : Prop := kdT B n p = 1 ∧ (vlT B n p = 20 ∨ vlT B n p = 22 ∨ vlT B n p = 4 ∨ vlT B n p = 6 ∨ vlT B n p = 21)
def tmL (B : Nat → Int32) (n : Nat) (s : LSt) (c : Nat) : Prop := 24 ≤ c ∨ (vlT B n s.1 = 20 ∧ s.2.2.2.1 = true) ∨ (vlT B n s.1 = 22 ∧ 6 ≤ s.2.2.2.2.2.length)
section LE
variable {B : Nat → Int32} {n : Nat} {s : LSt} {c : Nat}
theorem cl_b0 (h : ¬ knL B n s.1) : clsL B n s c = .inl (1 + 8 * s.1 + 0) := by
  unfold knL at h
  unfold clsL
  rw [if_pos h]
theorem cl_b4 (h : knL B n s.1) (h2 : tmL B n s c) : clsL B n s c = .inl (1 + 8 * s.1 + 4) := by
  unfold knL at h
  unfold tmL at h2
  unfold clsL
  rw [if_neg (fun q => q h), if_pos h2]
theorem cl_20 (h : kdT B n s.1 = 1) (v : vlT B n s.1 = 20) (h2 : ¬ tmL B n s c) : clsL B n s c = sbind (numR B n (nxP B n s.1) 5 40) (fun a => sbind (numR B n a.2 5 40) (fun b => .inr (b.2, a.1, b.1, true, s.2.2.2.2))) := by
  unfold tmL at h2
  unfold clsL
  rw [if_neg (fun q => q ⟨h, Or.inl v⟩), if_neg h2, if_pos v]
theorem cl_22 (h : kdT B n s.1 = 1) (v : vlT B n s.1 = 22) (h2 : ¬ tmL B n s c) : clsL B n s c = sbind (areaR B n (nxP B n s.1)) (hseR (nxP B n s.1) s) := by
  unfold tmL at h2
  unfold clsL
  rw [if_neg (fun q => q ⟨h, Or.inr (Or.inl v)⟩), if_neg h2, if_neg (by rw [v]; decide), if_pos v]
theorem cl_4 (h : kdT B n s.1 = 1) (v : vlT B n s.1 = 4) (h2 : ¬ tmL B n s c) : clsL B n s c = sbind (numR B n (nxP B n s.1) 0 99) (fun a => sbind (areaR B n a.2) (fun r => .inr (r.2, s.2.1, s.2.2.1, s.2.2.2.1, mrk r.1 (fun v => v / 128 * 128 + nI a.1) s.2.2.2.2.1, s.2.2.2.2.2))) := by
  unfold tmL at h2
  unfold clsL
  rw [if_neg (fun q => q ⟨h, Or.inr (Or.inr (Or.inl v))⟩), if_neg h2, if_neg (by rw [v]; decide), if_neg (by rw [v]; decide), if_pos v]
theorem cl_6 (h : kdT B n s.1 = 1) (v : vlT B n s.1 = 6) (h2 : ¬ tmL B n s c) : clsL B n s c = sbind (areaR B n (nxP B n s.1)) (fun r => .inr (r.2, s.2.1, s.2.2.1, s.2.2.2.1, mrk r.1 (fun v => v ||| 128) s.2.2.2.2.1, s.2.2.2.2.2)) := by
  unfold tmL at h2
  unfold clsL
  rw [if_neg (fun q => q ⟨h, Or.inr (Or.inr (Or.inr (Or.inl v)))⟩), if_neg h2, if_neg (by rw [v]; decide), if_neg (by rw [v]; decide), if_neg (by rw [v]; decide), if_pos v]
theorem cl_21 (h : kdT B n s.1 = 1) (v : vlT B n s.1 = 21) (h2 : ¬ tmL B n s c) : clsL B n s c = sbind (numR B n (nxP B n s.1) 0 39) (fun a => sbind (numR B n a.2 0 39) (fun b => .inr (b.2, s.2.1, s.2.2.1, s.2.2.2.1, (fun c => if c = 40 * b.1 + a.1 then s.2.2.2.2.1 c ||| 256 else s.2.2.2.2.1 c), s.2.2.2.2.2))) := by
  unfold tmL at h2
  unfold clsL
  rw [if_neg (fun q => q ⟨h, Or.inr (Or.inr (Or.inr (Or.inr v)))⟩), if_neg h2, if_neg (by rw [v]; decide), if_neg (by rw [v]; decide), if_neg (by rw [v]; decide), if_neg (by rw [v]; decide)]
end LE
section LF
variable {G : GG} {d : Nat} {b p : Nat} {B : Nat → Int32} {n : Nat} {Q : Option Value → HP → Prop}
theorem s_goesOn {h : HP} {T x : Nat} (hd : 1 ≤ d) (S : TpS G h T B n x) (h0 : kdT B n x = 0 → Q (some (.int 0)) h) (h1 : kdT B n x = 3 → vlT B n x = 59 → ∀ h2, FrI (NxF T) h h2 → TpS G h2 T B n (nxP B n x) → Q (some (.int 1)) h2) (h2 : ¬ kdT B n x = 0 → ¬ (kdT B n x = 3 ∧ vlT B n x = 59) → ∀ h2, FrI (Fa1 T) h h2 → hI h2 T 1 = nI (1 + 8 * x + 0) → Q (some (.int 0)) h2) : Cal G d mX8_goesOn [.ref T] h Q := by
  obtain ⟨f1, f2, f3, f4⟩ := S.f
  have := kdT_le B n x
  refine e_X8_goesOn hd ⟨f1, ?_⟩
  rw [f2, show (0 : Int32) = nI 0 from rfl, nI_eq_iff (by omega) (by omega)]
  refine ⟨fun z => s_isSign S (fun a b => ⟨_, rfl, fun _ => s_next S (fun h3 F3 S3 => ⟨rfl, h1 a b h3 F3 S3⟩), fun q => absurd q (by decide)⟩) (fun c => ⟨_, rfl, fun q => absurd rfl q, fun _ => s_fail S (k := 0) rfl ⟨_, rfl, Or.inl rfl, h2 z c _ (FrI.sI h _ ⟨rfl, rfl⟩) (hI_eq _ _ _ _)⟩⟩), fun z => h0 z⟩
theorem RC.w {R : Nat ⊕ LSt} {h h1 : HP} (W : RC G b p B n R h Q) (F : FrI (LcF b p) h h1) (t1 : hI h1 (b + 1) 1 = hI h (b + 1) 1) : RC G b p B n R h1 Q := ⟨fun e he h2 F2 f2 => W.1 e he h2 (F.tr F2) f2, fun t ht h2 F2 t2 L2 => W.2 t ht h2 (F.tr F2) (t2.trans t1) L2⟩
theorem RC.bz {R : Nat ⊕ LSt} {h : HP} (W : RC G b p B n R h Q) : RC G b p B n R h (fun r h2 => ∃ v, r = some (.int v) ∧ ((v = 0 ∨ v = 1) ∧ Q (some (.int v)) h2)) := ⟨fun e he h2 F2 f2 => ⟨_, rfl, Or.inl rfl, W.1 e he h2 F2 f2⟩, fun t ht h2 F2 t2 L2 => ⟨_, rfl, Or.inr rfl, W.2 t ht h2 F2 t2 L2⟩⟩
theorem s_readClauseL {h : HP} {s : LSt} {c : Nat} (hd : 5 ≤ d) (hp : b + 35 ≤ p) (hc : c < 1000) (LP : LsP B n s) (L : LdC G h b p B n s) (R : RC G b p B n (clsL B n s c) h Q) : Cal G d mX2_readClause [.ref (b + 6), .ref (b + 1), .ref p, .int (nI c)] h Q := by
  have L' := L
  obtain ⟨S, l2, ⟨l3, l3'⟩, ⟨l4, l5, l6, l7⟩, l8, l9, l10, l11⟩ := L
  obtain ⟨f1, f2, f3, f4⟩ := S.f
  obtain ⟨p1, -, -, p4, p5, p6, -⟩ := LP
  have kl := kdT_le B n s.1
  have bad : ∀ (k : Nat) (x : Int32), x = nI k → clsL B n s c = .inl (1 + 8 * s.1 + k) → Cal G (d - 1) mX8_fail [.ref (b + 1), .int x] h (fun r6 h7 => ∃ v10, r6 = some (.int v10) ∧ ((v10 = 0 ∨ v10 = 1) ∧ Q (some (.int v10)) h7)) := fun k x hx e => s_fail S hx ⟨_, rfl, Or.inl rfl, R.1 _ e _ (FrI.sI h _ (Or.inl ⟨rfl, by omega⟩)) (hI_eq _ _ _ _)⟩
  have go : ∀ w x5 x6 : Int32, kdT B n s.1 = 1 → vlT B n s.1 = w → knL B n s.1 → (¬ x5 = 0 ↔ w = 20) → (¬ x6 = 0 ↔ w = 22) → Ex G d mX2_readClause 82 [(0, .ref (b + 6)), (1, .ref (b + 1)), (2, .ref p), (3, .int (nI c)), (4, .int w), (5, .int x5), (6, .int x6)] [] h Q := by
    intro w x5 x6 k1 vw kn i5 i6
    have last : ¬ tmL B n s c → Ex G d mX2_readClause 120 [(0, .ref (b + 6)), (1, .ref (b + 1)), (2, .ref p), (3, .int (nI c)), (4, .int w), (5, .int x5), (6, .int x6)] [] h Q := fun nt => by
      refine t_X2_readClause_120 (by omega) ⟨f1, s_next S (fun h2 F2 S2 => ⟨rfl, ?_⟩)⟩
      have Fl : FrI (LcF b p) h h2 := F2.weak (fun a k z => nxf_lc z)
      have L2 := L'.fr hp (F2.weak (fun a k z => nxf_ar z)) (fun a k z => z) S2
      have R2 := (R.w Fl (F2.i (by unfold NxF; omega))).bz
      have k6 := F2.kd l3
      have x1 := (at_nx (B := B) p1.1).1
      refine ⟨fun e => ⟨k6, ?_⟩, fun e4 => ⟨fun e => ⟨k6, ?_⟩, fun e6 => ⟨fun e => ⟨k6, ?_⟩, fun e20 => ⟨fun e => ⟨k6, ?_⟩, fun e22 => ⟨k6, ?_⟩⟩⟩⟩⟩
      · rw [cl_4 k1 (vw.trans e) nt] at R2
        exact s_readWorth (by omega) hp x1 L2 p4 R2
      · rw [cl_6 k1 (vw.trans e) nt] at R2
        exact s_readRiver (by omega) hp x1 L2 p4 R2
      · rw [cl_20 k1 (vw.trans e) nt] at R2
        exact s_readWide (by omega) hp L2 R2
      · rw [cl_22 k1 (vw.trans e) nt] at R2
        have h6 : s.2.2.2.2.2.length < 6 := by
          have : ¬ 6 ≤ s.2.2.2.2.2.length := fun q => nt (Or.inr (Or.inr ⟨vw.trans e, q⟩))
          omega
        exact s_readHouse (by omega) hp x1 L2 h6 p6 R2
      · have v21 : vlT B n s.1 = 21 := by
          rcases kn.2 with q | q | q | q | q
          · exact absurd (vw.symm.trans q) e20
          · exact absurd (vw.symm.trans q) e22
          · exact absurd (vw.symm.trans q) e4
          · exact absurd (vw.symm.trans q) e6
          · exact q
        rw [cl_21 k1 v21 nt] at R2
        exact s_readWell (by omega) hp L2 R2
    have mid : ¬ 24 ≤ c → ¬ (vlT B n s.1 = 20 ∧ s.2.2.2.1 = true) → Ex G d mX2_readClause 100 [(0, .ref (b + 6)), (1, .ref (b + 1)), (2, .ref p), (3, .int (nI c)), (4, .int w), (5, .int x5), (6, .int x6)] [] h Q := fun n1 n2 => by
      refine t_X2_readClause_100 (by omega) ⟨fun z => last (fun t => ?_), fun z => ⟨l2.1, fun y => last (fun t => ?_), fun y => ⟨f1, bad 4 4 rfl (cl_b4 kn (Or.inr (Or.inr ⟨vw.trans (i6.mp z), ?_⟩)))⟩⟩⟩
      · rcases t with t | t | t
        · exact n1 t
        · exact n2 t
        · exact absurd z (i6.mpr (vw.symm.trans t.1))
      · rw [l6, show (6 : Int32) = nI 6 from rfl, nI_lt_iff (by omega) (by omega)] at y
        rcases t with t | t | t
        · exact n1 t
        · exact n2 t
        · omega
      · rw [l6, show (6 : Int32) = nI 6 from rfl, nI_lt_iff (by omega) (by omega)] at y
        omega
    refine t_X2_readClause_82 (by omega) ⟨fun z => ⟨f1, bad 4 4 rfl (cl_b4 kn (Or.inl ?_))⟩, fun z => ⟨fun y => mid ?_ (fun t => ?_), fun y => ⟨l3, fun u => ⟨f1, bad 4 4 rfl (cl_b4 kn (Or.inr (Or.inl ⟨vw.trans (i5.mp y), ?_⟩)))⟩, fun u => mid ?_ (fun t => ?_)⟩⟩⟩
    · exact (nI_le_iff (a := 24) (by omega) (by omega)).mp z
    · exact fun q => z ((nI_le_iff (a := 24) (by omega) (by omega)).mpr q)
    · exact absurd y (i5.mpr (vw.symm.trans t.1))
    · rw [l3'] at u
      cases hb : s.2.2.2.1
      · rw [hb] at u
        exact absurd rfl u
      · rfl
    · exact fun q => z ((nI_le_iff (a := 24) (by omega) (by omega)).mpr q)
    · rw [l3', t.2] at u
      exact absurd u (by decide)
  have all : ∀ w : Int32, ((kdT B n s.1 = 1 ∧ vlT B n s.1 = w) ∨ (¬ kdT B n s.1 = 1 ∧ w = -1)) → Ex G d mX2_readClause 16 [(0, .ref (b + 6)), (1, .ref (b + 1)), (2, .ref p), (3, .int (nI c))] [.int w] h Q := by
    intro w hw
    have yes : ∀ x5 x6 : Int32, knL B n s.1 → (¬ x5 = 0 ↔ w = 20) → (¬ x6 = 0 ↔ w = 22) → Ex G d mX2_readClause 82 [(0, .ref (b + 6)), (1, .ref (b + 1)), (2, .ref p), (3, .int (nI c)), (4, .int w), (5, .int x5), (6, .int x6)] [] h Q := fun x5 x6 kn a1 a2 => by
      rcases hw with ⟨k1, vw⟩ | ⟨nk, -⟩
      · exact go w x5 x6 k1 vw kn a1 a2
      · exact absurd kn.1 nk
    have kn : (w = 20 ∨ w = 22 ∨ w = 4 ∨ w = 6 ∨ w = 21) → knL B n s.1 := fun q => by
      rcases hw with ⟨k1, vw⟩ | ⟨-, e⟩
      · exact ⟨k1, by rw [vw]; exact q⟩
      · rw [e] at q
        exact absurd q (by decide)
    refine t_X2_readClause_16 ⟨fun n20 => ⟨fun n22 => ?_, fun e => ?_⟩, fun e => ⟨fun _ => ?_, fun e2 => ?_⟩⟩
    · have u : ∀ q : w = 4 ∨ w = 6 ∨ w = 21, Ex G d mX2_readClause 82 [(0, .ref (b + 6)), (1, .ref (b + 1)), (2, .ref p), (3, .int (nI c)), (4, .int w), (5, .int 0), (6, .int 0)] [] h Q := fun q => yes 0 0 (kn (Or.inr (Or.inr q))) ⟨fun z => absurd rfl z, fun z => absurd z n20⟩ ⟨fun z => absurd rfl z, fun z => absurd z n22⟩
      refine t_X2_readClause_44 (by omega) ⟨fun z => absurd rfl z, fun _ => ⟨fun z => absurd rfl z, fun _ => ⟨fun e => u (Or.inl e), fun e4 => ⟨fun e => u (Or.inr (Or.inl e)), fun e6 => ⟨fun e => u (Or.inr (Or.inr e)), fun e21 => ⟨f1, bad 0 0 rfl (cl_b0 (fun q => ?_))⟩⟩⟩⟩⟩⟩
      rcases hw with ⟨k1, vw⟩ | ⟨nk, -⟩
      · rcases q.2 with q | q | q | q | q <;> rw [vw] at q
        · exact n20 q
        · exact n22 q
        · exact e4 q
        · exact e6 q
        · exact e21 q
      · exact nk q.1
    · exact t_X2_readClause_44 (by omega) ⟨fun z => absurd rfl z, fun _ => ⟨fun _ => yes 0 1 (kn (Or.inr (Or.inl e))) ⟨fun z => absurd rfl z, fun z => absurd z n20⟩ ⟨fun _ => e, fun _ => by decide⟩, fun z => absurd z (by decide)⟩⟩
    · exact t_X2_readClause_44 (by omega) ⟨fun _ => yes 1 0 (kn (Or.inl e)) ⟨fun _ => e, fun _ => by decide⟩ ⟨fun z => absurd rfl z, fun z => by rw [e] at z; exact absurd z (by decide)⟩, fun z => absurd z (by decide)⟩
    · rw [e] at e2
      exact absurd e2 (by decide)
  refine e_X2_readClause ⟨f1, ?_⟩
  rw [f2, f4, show (1 : Int32) = nI 1 from rfl, nI_eq_iff (by omega) (by omega)]
  exact ⟨fun z => all _ (Or.inr ⟨z, rfl⟩), fun z => all _ (Or.inl ⟨z, rfl⟩)⟩
/-- houses beyond the land -/
def outH (s : LSt) : Prop := ∃ a ∈ s.2.2.2.2.2, s.2.1 < a.2.2.1 ∨ s.2.2.1 < a.2.2.2
theorem s_checkHouses {h : HP} {s : LSt} (hd : 1 ≤ d) (hp : b + 35 ≤ p) (LP : LsP B n s) (L : LdC G h b p B n s) (h1 : outH s → ∀ h2, FrI (Fa1 (b + 1)) h h2 → hI h2 (b + 1) 1 = nI (1 + 8 * n + 5) → Q none h2) (h0 : ¬ outH s → Q none h) : Cal G d mX2_checkHouses [.ref (b + 6), .ref (b + 1), .ref p] h Q := by
  obtain ⟨S, l2, ⟨l3, l3'⟩, ⟨l4, l5, l6, l7⟩, l8, l9, l10, l11⟩ := L
  obtain ⟨p1, p2, p3, p4, p5, p6, -⟩ := LP
  have n400 := S.2.1.2.1
  refine e_X2_checkHouses ?_
  unfold T_X2_checkHouses
  have loop : ∀ m i h1', i + m = s.2.2.2.2.2.length → FrI (Fa1 (b + 1)) h h1' → (((∀ j a, j < i → s.2.2.2.2.2[j]? = some a → ¬ (s.2.1 < a.2.2.1 ∨ s.2.2.1 < a.2.2.2)) ∧ h1' = h) ∨ (outH s ∧ hI h1' (b + 1) 1 = nI (1 + 8 * n + 5))) → Ex G d mX2_checkHouses 2 [(0, .ref (b + 6)), (1, .ref (b + 1)), (2, .ref p), (3, .int (nI i))] [] h1' Q := by
    intro m
    induction m with
    | zero =>
      intro i h2 hi F D
      have e2 : hI h2 p 2 = nI s.2.2.2.2.2.length := (F.i (by unfold Fa1; omega)).trans l6
      refine t_X2_checkHouses_2 hd ⟨F.kd l2.1, fun _ => ?_, fun z => ?_⟩
      · rcases D with ⟨D, e⟩ | ⟨o, f⟩
        · rw [e]
          refine h0 (fun o => ?_)
          obtain ⟨a, ha, oa⟩ := o
          obtain ⟨j, hj, ej⟩ := List.mem_iff_getElem.mp ha
          exact D j a (by omega) (by rw [List.getElem?_eq_getElem hj, ej]) oa
        · exact h1 o h2 F f
      · rw [e2] at z
        exact absurd ((nI_le_iff (by omega) (by omega)).mpr (by omega)) z
    | succ m ih =>
      intro i h2 hi F D
      have hi' : i < s.2.2.2.2.2.length := by omega
      obtain ⟨a, ea⟩ : ∃ a, s.2.2.2.2.2[i]? = some a := ⟨_, List.getElem?_eq_getElem hi'⟩
      have ap := p6 a (List.mem_of_getElem? ea)
      unfold RctP at ap
      have h9 := l9 i a ea
      unfold hsT at h9
      have st := l2.fr F
      obtain ⟨q1, ⟨q2, q3, q4, q5⟩, -, -, ⟨q6, q7⟩, -, q8, -⟩ := st
      have e2 : hI h2 p 2 = nI s.2.2.2.2.2.length := (F.i (by unfold Fa1; omega)).trans l6
      have e0 : hI h2 p 0 = nI s.2.1 := (F.i (by unfold Fa1; omega)).trans l4
      have e1 : hI h2 p 1 = nI s.2.2.1 := (F.i (by unfold Fa1; omega)).trans l5
      have g3 : hI h2 (p + 5 + i) 3 = nI a.2.2.1 := (F.i (by unfold Fa1; omega)).trans h9.2.2.2.1
      have g4 : hI h2 (p + 5 + i) 4 = nI a.2.2.2 := (F.i (by unfold Fa1; omega)).trans h9.2.2.2.2.1
      have el : hI h2 (b + 1) 0 = nI n := (F.i (by unfold Fa1; omega)).trans S.2.1.1
      have vi : vp_in (nI i) (hN h2 (p + 3)) := by rw [q7]; exact vin_nI (by omega) (by omega)
      have th : hR h2 (p + 3) (nI i).toNatClampNeg = some (p + 5 + i) := by rw [cl_nI (by omega)]; exact (q8 i (by omega)).1
      have k9 := (q8 i (by omega)).2
      have out : (s.2.1 < a.2.2.1 ∨ s.2.2.1 < a.2.2.2) → Cal G (d - 1) mX8_failAt [.ref (b + 1), .int (hI h2 (b + 1) 0), .int 5] h2 (fun r12 h13 => ∃ v15, r12 = some (.int v15) ∧ Ex G d mX2_checkHouses 2 [(0, .ref (b + 6)), (1, .ref (b + 1)), (2, .ref p), (3, .int (nI i + 1))] [] h13 Q) := fun o => by
        rw [el]
        refine e_X8_failAt ⟨F.kd S.f.1, _, rfl, ?_⟩
        rw [nI_S, show (1 : Int32) + 8 * nI n + 5 = nI 1 + nI 8 * nI n + nI 5 from rfl, nM, nA, nA]
        exact ih (i + 1) _ (by omega) (F.tr (FrI.sI h2 _ ⟨rfl, rfl⟩)) (Or.inr ⟨⟨a, List.mem_of_getElem? ea, o⟩, hI_eq _ _ _ _⟩)
      refine t_X2_checkHouses_2 hd ⟨q1, fun z => ?_, fun _ => ⟨p + 3, q4, q6, vi, p + 5 + i, th, k9, fun z => ⟨F.kd S.f.1, out ?_⟩, fun z => ⟨vi, p + 5 + i, th, k9, fun y => ?_, fun y => ⟨F.kd S.f.1, out ?_⟩⟩⟩⟩
      · rw [e2, nI_le_iff (by omega) (by omega)] at z
        omega
      · rw [e0, g3, nI_lt_iff (by omega) (by omega)] at z
        exact Or.inl z
      · rw [e0, g3, nI_lt_iff (by omega) (by omega)] at z
        rw [g4, e1, nI_le_iff (by omega) (by omega)] at y
        rw [nI_S]
        refine ih (i + 1) h2 (by omega) F ?_
        rcases D with ⟨D, e⟩ | D
        · refine Or.inl ⟨fun j a' hj ha' => ?_, e⟩
          by_cases ej : j = i
          · rw [ej, ea] at ha'
            obtain rfl := Option.some.inj ha'
            omega
          · exact D j a' (by omega) ha'
        · exact Or.inr D
      · rw [g4, e1, nI_le_iff (by omega) (by omega)] at y
        exact Or.inr (by omega)
  exact loop s.2.2.2.2.2.length 0 h (by omega) (FrI.rf _ h) (Or.inl ⟨fun j a hj => by omega, rfl⟩)
theorem s_wipe {h : HP} (hd : 1 ≤ d) (St : StSh G h p) (hQ : ∀ h2, FrI (fun a _ => p ≤ a ∧ a < p + 42) h h2 → (hI h2 p 0 = 20 ∧ hI h2 p 1 = 20 ∧ hI h2 p 2 = 0 ∧ hI h2 p 3 = 0) → (∀ c, c < 1600 → hI h2 (p + 1) c = 1) → (∀ t, t < 31 → tg h2 p t 0 = 0) → (∀ e, e < 6 → hI h2 (p + 36 + e) 0 = 0) → Q none h2) : Cal G d mX6_wipe [.ref p] h Q := by
  generalize g1 : sI (sI (sI (sI h p 0 20) p 1 20) p 2 0) p 3 0 = h1
  have F1 : FrI (fun a _ => p ≤ a ∧ a < p + 42) h h1 := by
    have st : ∀ (h : HP) k v, FrI (fun a _ => p ≤ a ∧ a < p + 42) h (sI h p k v) := fun h k v => FrI.sI h v ⟨by omega, by omega⟩
    rw [← g1]
    exact (((st h 0 _).tr (st _ 1 _)).tr (st _ 2 _)).tr (st _ 3 _)
  have S1 := St.fr F1
  have v1 : hI h1 p 0 = 20 ∧ hI h1 p 1 = 20 ∧ hI h1 p 2 = 0 ∧ hI h1 p 3 = 0 := by
    rw [← g1]
    simp [hI_sI]
  refine e_X6_wipe hd ⟨St.1, ?_⟩
  rw [g1]
  refine ⟨p + 1, S1.2.1.1, s_fill S1.2.2.1.1 S1.2.2.1.2 (by omega) ⟨rfl, ?_⟩⟩
  generalize g2 : fillI h1 (p + 1) 1600 1 = h2
  have F2 : FrI (fun a _ => a = p + 1) h1 h2 := by
    rw [← g2]
    exact FrI.fill h1 _ (fun _ => rfl)
  have c2 : ∀ c, c < 1600 → hI h2 (p + 1) c = 1 := fun c hc => by rw [← g2, hI_fill, if_pos ⟨rfl, hc⟩]
  have F2' := F1.tr (F2.weak (fun a k z => by omega : ∀ a k, a = p + 1 → p ≤ a ∧ a < p + 42))
  have er : ∀ m i h3, i + m = 6 → FrI (fun a _ => p + 5 ≤ a ∧ a < p + 42) h2 h3 → (∀ t, t < 31 → tg h3 p t 0 = 0) → (∀ e, e < i → hI h3 (p + 36 + e) 0 = 0) → Ex G d mX6_wipe 56 [(0, .ref p), (1, .int (nI i))] [] h3 Q := by
    intro m
    induction m with
    | zero =>
      intro i h3 hi F3 a1 a2
      obtain rfl : i = 6 := by omega
      refine t_X6_wipe_56 ⟨fun _ => hQ h3 (F2'.tr (F3.weak (fun a k z => by omega))) ?_ (fun c hc => (F3.i (by omega)).trans (c2 c hc)) a1 a2, fun z => absurd (show (6 : Int32) ≤ nI 6 by decide) z⟩
      rw [F3.i (by omega), F3.i (k := 1) (by omega), F3.i (k := 2) (by omega), F3.i (k := 3) (by omega), F2.i (by omega), F2.i (k := 1) (by omega), F2.i (k := 2) (by omega), F2.i (k := 3) (by omega)]
      exact v1
    | succ m ih =>
      intro i h3 hi F3 a1 a2
      obtain ⟨q1, ⟨q2, q3, q4, q5⟩, -, -, -, ⟨q6, q7⟩, -, q8⟩ := (S1.fr F2).fr F3
      refine t_X6_wipe_56 ⟨fun z => ?_, fun _ => ⟨q1, p + 4, q5, q6, by rw [q7]; exact vin_nI (by omega) (by omega), p + 36 + i, by rw [cl_nI (by omega)]; exact (q8 i (by omega)).1, (q8 i (by omega)).2, ?_⟩⟩
      · have := (nI_le_iff (a := 6) (by omega) (by omega)).mp z
        omega
      · rw [nI_S]
        refine ih (i + 1) _ (by omega) (F3.tr (FrI.sI h3 _ ⟨by omega, by omega⟩)) (fun t ht => ?_) (fun e he => ?_)
        · show hI _ (p + 5 + t) 0 = 0
          rw [hI_ne _ _ (Or.inl (by omega))]
          exact a1 t ht
        · by_cases c : e = i
          · rw [c, hI_eq]
          · rw [hI_ne _ _ (Or.inl (by omega))]
            exact a2 e (by omega)
  have th : ∀ m i h3, i + m = 31 → FrI (fun a _ => p + 5 ≤ a ∧ a < p + 42) h2 h3 → (∀ t, t < i → tg h3 p t 0 = 0) → Ex G d mX6_wipe 32 [(0, .ref p), (1, .int (nI i))] [] h3 Q := by
    intro m
    induction m with
    | zero =>
      intro i h3 hi F3 a1
      obtain rfl : i = 31 := by omega
      exact t_X6_wipe_32 ⟨fun _ => er 6 0 h3 rfl F3 a1 (fun e he => by omega), fun z => absurd (show (31 : Int32) ≤ nI 31 by decide) z⟩
    | succ m ih =>
      intro i h3 hi F3 a1
      obtain ⟨q1, ⟨q2, q3, q4, q5⟩, -, -, ⟨q6, q7⟩, -, q8, -⟩ := (S1.fr F2).fr F3
      refine t_X6_wipe_32 ⟨fun z => absurd z (n31_not (by omega)), fun _ => ⟨q1, p + 3, q4, q6, by rw [q7]; exact vin_nI (by omega) (by omega), p + 5 + i, by rw [cl_nI (by omega)]; exact (q8 i (by omega)).1, (q8 i (by omega)).2, ?_⟩⟩
      rw [nI_S]
      refine ih (i + 1) _ (by omega) (F3.tr (FrI.sI h3 _ ⟨by omega, by omega⟩)) (fun t ht => ?_)
      by_cases c : t = i
      · rw [c]
        exact hI_eq _ _ _ _
      · show hI _ (p + 5 + t) 0 = 0
        rw [hI_ne _ _ (Or.inl (by omega))]
        exact a1 t (by omega)
  exact th 31 0 h2 rfl (FrI.rf _ h2) (fun t ht => by omega)
theorem numR_inl {x l u e : Nat} (hx : x ≤ n) (h : numR B n x l u = .inl e) : 1 ≤ e ∧ e ≤ 1 + 8 * n + 5 := by
  by_cases c : okN B n x l u
  · rw [(numR_ok c).1] at h
    cases h
  · rw [numR_bad c] at h
    obtain rfl := Sum.inl.inj h
    unfold fcN
    split <;> omega
theorem sbind_inl {α β : Type} {r : Nat ⊕ α} {f : α → Nat ⊕ β} {e : Nat} (h : sbind r f = .inl e) : r = .inl e ∨ ∃ a, r = .inr a ∧ f a = .inl e := by
  cases r with
  | inl e' => exact Or.inl (congrArg _ (Sum.inl.inj h))
  | inr a => exact Or.inr ⟨a, rfl, h⟩
theorem areaR_inl {x e : Nat} (hx : x ≤ n) (h : areaR B n x = .inl e) : 1 ≤ e ∧ e ≤ 1 + 8 * n + 5 := by
  unfold areaR at h
  rcases sbind_inl h with h | ⟨a, e1, h⟩
  · exact numR_inl hx h
  have i1 := (numR_inr hx (v := a.1) (q := a.2) e1).2.2.1
  rcases sbind_inl h with h | ⟨b, e2, h⟩
  · exact numR_inl i1 h
  have i2 := (numR_inr i1 (v := b.1) (q := b.2) e2).2.2.1
  rcases sbind_inl h with h | ⟨c, e3, h⟩
  · exact numR_inl i2 h
  have i3 := (numR_inr i2 (v := c.1) (q := c.2) e3).2.2.1
  rcases sbind_inl h with h | ⟨d, e4, h⟩
  · exact numR_inl i3 h
  · cases h
theorem clsL_inl {s : LSt} {c e : Nat} (S : At B n s.1) (h : clsL B n s c = .inl e) : 1 ≤ e ∧ e ≤ 1 + 8 * n + 5 := by
  have s1 : s.1 ≤ n := S.1
  have n1 := (at_nx (B := B) s1).1
  by_cases kn : knL B n s.1
  · by_cases tm : tmL B n s c
    · rw [cl_b4 kn tm] at h
      obtain rfl := Sum.inl.inj h
      omega
    · obtain ⟨k1, v | v | v | v | v⟩ := kn
      · rw [cl_20 k1 v tm] at h
        rcases sbind_inl h with h | ⟨a, e1, h⟩
        · exact numR_inl n1 h
        rcases sbind_inl h with h | ⟨b, e2, h⟩
        · exact numR_inl (numR_inr n1 (v := a.1) (q := a.2) e1).2.2.1 h
        · cases h
      · rw [cl_22 k1 v tm] at h
        rcases sbind_inl h with h | ⟨a, e1, h⟩
        · exact areaR_inl n1 h
        · by_cases c : ∀ r ∈ s.2.2.2.2.2, clrR a.1 r
          · rw [hseR_ok c] at h
            cases h
          · rw [hseR_bad c] at h
            obtain rfl := Sum.inl.inj h
            omega
      · rw [cl_4 k1 v tm] at h
        rcases sbind_inl h with h | ⟨a, e1, h⟩
        · exact numR_inl n1 h
        rcases sbind_inl h with h | ⟨b, e2, h⟩
        · exact areaR_inl (numR_inr n1 (v := a.1) (q := a.2) e1).2.2.1 h
        · cases h
      · rw [cl_6 k1 v tm] at h
        rcases sbind_inl h with h | ⟨a, e1, h⟩
        · exact areaR_inl n1 h
        · cases h
      · rw [cl_21 k1 v tm] at h
        rcases sbind_inl h with h | ⟨a, e1, h⟩
        · exact numR_inl n1 h
        rcases sbind_inl h with h | ⟨b, e2, h⟩
        · exact numR_inl (numR_inr n1 (v := a.1) (q := a.2) e1).2.2.1 h
        · cases h
  · rw [cl_b0 kn] at h
    obtain rfl := Sum.inl.inj h
    omega
theorem ldF_1 {k c e : Nat} {s : LSt} (h : clsL B n s c = .inl e) : ldF B n (k + 1) s c = .inl e := by
  unfold ldF
  rw [h]
  rfl
theorem ldF_2 {k c : Nat} {s t : LSt} (h : clsL B n s c = .inr t) (z : kdT B n t.1 = 0) : ldF B n (k + 1) s c = .inr t := by
  unfold ldF
  rw [h]
  exact if_pos z
theorem ldF_3 {k c : Nat} {s t : LSt} (h : clsL B n s c = .inr t) (z : kdT B n t.1 = 3 ∧ vlT B n t.1 = 59) : ldF B n (k + 1) s c = ldF B n k (nxP B n t.1, t.2) (c + 1) := by
  show sbind (clsL B n s c) _ = _
  rw [h]
  exact (if_neg (by omega)).trans (if_pos z)
theorem ldF_4 {k c : Nat} {s t : LSt} (h : clsL B n s c = .inr t) (z : ¬ kdT B n t.1 = 0) (y : ¬ (kdT B n t.1 = 3 ∧ vlT B n t.1 = 59)) : ldF B n (k + 1) s c = .inl (1 + 8 * t.1 + 0) := by
  unfold ldF
  rw [h]
  exact (if_neg z).trans (if_neg y)
/-- the whole text -/
noncomputable def landF (B : Nat → Int32) (n : Nat) : Nat ⊕ LSt := sbind (ldF B n 25 (LS0 B n) 0) (fun s => @ite _ (outH s) (Classical.propDecidable _) (.inl (1 + 8 * n + 5)) (.inr s))
theorem s_readL {h : HP} (hd : 10 ≤ d) (hp : b + 35 ≤ p) (K : TpK G h (b + 1)) (E : TpB h (b + 1) B n) (St : StSh G h p) (k6 : Kd G h (b + 6) 2) (h0 : ∀ e, landF B n = .inl e → ∀ h2, FrI (LcF b p) h h2 → hI h2 (b + 1) 1 = nI e → Q (some (.int 0)) h2) (h1 : ∀ t, landF B n = .inr t → ∀ h2, FrI (LcF b p) h h2 → LdC G h2 b p B n t → Q (some (.int 1)) h2) : Cal G d mX2_read [.ref (b + 6), .ref (b + 1), .ref p] h Q := by
  have n400 := E.2.1
  refine e_X2_read (by omega) ⟨St.1, s_wipe (by omega) St (fun h2 F2 v2 c2 t2 e2 => ⟨rfl, F2.kd k6, F2.kd K.1, ?_⟩)⟩
  generalize g3 : sI h2 (b + 6) 0 0 = h3
  have F23 : FrI (LcF b p) h h3 := by
    rw [← g3]
    exact (F2.weak (fun a k z => by unfold LcF; omega)).tr (FrI.sI h2 _ (Or.inr (Or.inl ⟨by omega, by omega⟩)))
  have E3 : TpB h3 (b + 1) B n := by
    obtain ⟨x1, x2, x3, x4⟩ := E
    exact ⟨(F23.i (by unfold LcF; omega)).trans x1, x2, fun k hk => (F23.i (by unfold LcF; omega)).trans (x3 k hk), x4⟩
  refine s_open (by omega) (K.fi F23) E3 (fun h4 F4 S4 f4 => ⟨rfl, ?_⟩)
  have F4' : FrI (LcF b p) h h4 := F23.tr (F4.weak (fun a k z => by unfold OpF at z; unfold LcF; omega))
  have e4 : ∀ a k, p ≤ a → hI h4 a k = hI h2 a k := fun a k ha => by rw [F4.i (by unfold OpF; omega), ← g3, hI_ne _ _ (Or.inl (by omega))]
  have L4 : LdC G h4 b p B n (LS0 B n) := by
    refine ⟨S4, St.fr F4', ⟨F4'.kd k6, ?_⟩, ⟨(e4 _ _ (by omega)).trans v2.1, (e4 _ _ (by omega)).trans v2.2.1, (e4 _ _ (by omega)).trans v2.2.2.1, (e4 _ _ (by omega)).trans v2.2.2.2⟩, fun c hc => (e4 _ _ (by omega)).trans (c2 c hc), fun i a ha => ?_, fun t h1 h2 => (e4 _ _ (by omega)).trans (t2 t h2), fun e he => (e4 _ _ (by omega)).trans (e2 e he)⟩
    · rw [F4.i (by unfold OpF; omega), ← g3, hI_eq]
      rfl
    · have ha' : ([] : List Rct)[i]? = some a := ha
      simp at ha'
  -- with a fault
  have ng : ∀ e h5 (x4 : Int32), landF B n = .inl e → ¬ e = 0 → e < 100000 → FrI (LcF b p) h h5 → hI h5 (b + 1) 1 = nI e → Ex G d mX2_read 59 [(0, .ref (b + 6)), (1, .ref (b + 1)), (2, .ref p), (3, .int 0), (4, .int x4)] [] h5 Q := fun e h5 x4 he ne eb F5 f5 => by
    have nz : ¬ hI h5 (b + 1) 1 = 0 := by
      rw [f5]
      exact fun q => ne ((nI_eq_iff (b := 0) (by omega) (by omega)).mp q)
    exact t_X2_read_59 (by omega) ⟨F5.kd K.1, fun _ => ⟨fun _ => h0 e he h5 F5 f5, fun q => absurd q nz⟩, fun q => absurd q nz⟩
  have ng18 : ∀ e h5 (x4 : Int32), landF B n = .inl e → ¬ e = 0 → e < 100000 → FrI (LcF b p) h h5 → hI h5 (b + 1) 1 = nI e → Ex G d mX2_read 18 [(0, .ref (b + 6)), (1, .ref (b + 1)), (2, .ref p), (3, .int 0), (4, .int x4)] [] h5 Q := fun e h5 x4 he ne eb F5 f5 => t_X2_read_18 (by omega) ⟨fun _ => ng e h5 x4 he ne eb F5 f5, fun _ => ⟨fun _ => ng e h5 x4 he ne eb F5 f5, fun z => absurd rfl z⟩⟩
  have okd : ∀ t h5 (x4 : Int32), ldF B n 25 (LS0 B n) 0 = .inr t → LsP B n t → FrI (LcF b p) h h5 → LdC G h5 b p B n t → hI h5 (b + 1) 1 = 0 → Ex G d mX2_read 59 [(0, .ref (b + 6)), (1, .ref (b + 1)), (2, .ref p), (3, .int 0), (4, .int x4)] [] h5 Q := fun t h5 x4 et tp F5 L5 f5 => by
    refine t_X2_read_59 (by omega) ⟨F5.kd K.1, fun q => absurd f5 q, fun _ => ⟨F5.kd k6, s_checkHouses (by omega) hp tp L5 (fun o h6 F6 f6 => ⟨rfl, fun _ => ?_, fun q => ?_⟩) (fun no => ⟨rfl, fun q => absurd f5 q, fun _ => h1 t ?_ h5 F5 L5⟩)⟩⟩
    · refine h0 (1 + 8 * n + 5) ?_ h6 (F5.tr (F6.weak (fun a k z => fa1_lc z))) f6
      unfold landF
      rw [et]
      exact @if_pos _ (Classical.propDecidable _) o _ _ _
    · rw [f6] at q
      have := (nI_eq_iff (b := 0) (by omega) (by omega)).mp q
      omega
    · unfold landF
      rw [et]
      exact @if_neg _ (Classical.propDecidable _) no _ _ _
  have okd18 : ∀ t h5 (x4 : Int32), ldF B n 25 (LS0 B n) 0 = .inr t → LsP B n t → FrI (LcF b p) h h5 → LdC G h5 b p B n t → hI h5 (b + 1) 1 = 0 → Ex G d mX2_read 18 [(0, .ref (b + 6)), (1, .ref (b + 1)), (2, .ref p), (3, .int 0), (4, .int x4)] [] h5 Q := fun t h5 x4 et tp F5 L5 f5 => t_X2_read_18 (by omega) ⟨fun _ => okd t h5 x4 et tp F5 L5 f5, fun _ => ⟨fun _ => okd t h5 x4 et tp F5 L5 f5, fun z => absurd rfl z⟩⟩
  have bd : ∀ e, ldF B n 25 (LS0 B n) 0 = .inl e → landF B n = .inl e := fun e he => by
    unfold landF
    rw [he]
    rfl
  have go : ∀ k c s h5, c + k = 24 → LsP B n s → LdC G h5 b p B n s → FrI (LcF b p) h h5 → hI h5 (b + 1) 1 = 0 → ldF B n 25 (LS0 B n) 0 = ldF B n (k + 1) s c → Ex G d mX2_read 18 [(0, .ref (b + 6)), (1, .ref (b + 1)), (2, .ref p), (3, .int 1), (4, .int (nI c))] [] h5 Q := by
    intro k
    induction k with
    | zero =>
      intro c s h5 hc LP L5 F5 f5 el
      have nt : ∀ t, clsL B n s c = .inr t → False := fun t e => by
        have := (clsL_inr LP e).2
        omega
      refine t_X2_read_18 (by omega) ⟨fun z => absurd ((nI_lt_iff (a := 24) (by omega) (by omega)).mp z) (by omega), fun _ => ⟨fun z => absurd z (by decide), fun _ => ⟨F5.kd k6, s_readClauseL (by omega) hp (by omega) LP L5 ⟨fun e he h6 F6 f6 => ⟨_, rfl, fun _ => ?_, fun z => absurd rfl z⟩, fun t ht => absurd (nt t ht) (fun z => z)⟩⟩⟩⟩
      have ee := clsL_inl LP.1 he
      exact ng18 e h6 _ (bd e (el.trans (ldF_1 he))) (by omega) (by omega) (F5.tr F6) f6
    | succ k ih =>
      intro c s h5 hc LP L5 F5 f5 el
      refine t_X2_read_18 (by omega) ⟨fun z => absurd ((nI_lt_iff (a := 24) (by omega) (by omega)).mp z) (by omega), fun _ => ⟨fun z => absurd z (by decide), fun _ => ⟨F5.kd k6, s_readClauseL (by omega) hp (by omega) LP L5 ⟨fun e he h6 F6 f6 => ⟨_, rfl, fun _ => ?_, fun z => absurd rfl z⟩, fun t ht h6 F6 t6 L6 => ⟨_, rfl, fun z => absurd z (by decide), fun _ => ⟨F6.kd (F5.kd K.1), ?_⟩⟩⟩⟩⟩⟩
      · have ee := clsL_inl LP.1 he
        exact ng18 e h6 _ (bd e (el.trans (ldF_1 he))) (by omega) (by omega) (F5.tr F6) f6
      · have TP := (clsL_inr LP ht).1
        have f6 : hI h6 (b + 1) 1 = 0 := t6.trans f5
        have tn : t.1 ≤ n := TP.1.1
        refine s_goesOn (by omega) L6.1 (fun z => ⟨_, rfl, fun _ => ?_, fun z => absurd rfl z⟩) (fun z1 z2 h7 F7 S7 => ⟨_, rfl, fun z => absurd z (by decide), fun _ => ?_⟩) (fun z1 z2 h7 F7 f7 => ⟨_, rfl, fun _ => ?_, fun z => absurd rfl z⟩)
        · exact okd18 t h6 _ (el.trans (ldF_2 ht z)) TP (F5.tr F6) L6 f6
        · rw [nI_S]
          refine ih (c + 1) (nxP B n t.1, t.2) h7 (by omega) ⟨at_nx tn, TP.2⟩ (L6.fr hp (F7.weak (fun a k z => nxf_ar z)) (fun a k z => z) S7) ((F5.tr F6).tr (F7.weak (fun a k z => nxf_lc z))) ((F7.i (by unfold NxF; omega)).trans f6) (el.trans (ldF_3 ht ⟨z1, z2⟩))
        · exact ng18 _ h7 _ (bd _ (el.trans (ldF_4 ht z1 z2))) (by omega) (by omega) ((F5.tr F6).tr (F7.weak (fun a k z => fa1_lc z))) f7
  exact go 24 0 _ h4 rfl (ls0_p B n) L4 F4' f4 rfl
end LF
