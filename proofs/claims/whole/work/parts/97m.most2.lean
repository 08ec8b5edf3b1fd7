/-! ===== the most walls: both loops, the pair ===== -/
theorem firF_sm {p : Nat → Bool} : ∀ (n i : Nat) {g : Nat}, firF p i n = some g → p g = true ∧ i ≤ g ∧ g < i + n
  | 0, _, _, h => by cases h
  | n + 1, i, g, h => by
    rw [firF_step] at h
    by_cases c : p i = true
    · rw [if_pos c] at h
      obtain rfl : i = g := Option.some.inj h
      exact ⟨c, Nat.le_refl _, by omega⟩
    · rw [if_neg c] at h
      obtain ⟨a1, a2, a3⟩ := firF_sm n (i + 1) h
      exact ⟨a1, by omega, by omega⟩
def MoI (b s t0 a k : Nat) : Prop := a = b + 29 ∨ a = s + 35 ∨ (a = s + 5 + t0 ∧ k = 6)
section ML
variable {G : GG} {d : Nat} {b s : Nat} {Q : Option Value → HP → Prop}
theorem s_most27 {A f t0 : Nat} {x1 : Int32} {C : List Cla} {jn : Prop} {h0 : HP} (hd : 7 ≤ d) (K0 : PlW G h0 (b + 29)) (hpl0 : hR h0 b 8 = some (b + 29)) (hs : b + 34 < s ∧ s + 42 ≤ b + 140 ∧ b + 140 ≤ A) (Sc0 : ScrC G h0 A C) (hC : C.length ≤ 12) (hcl : ∀ q ∈ C, ClaP q) (hj0 : hI h0 A 0 = 0 ↔ ¬ jn) (hf : f < 12) (ht0 : t0 < 30) :
    ∀ (k n : Nat) (S : Nat → Int32) (ta : Nat) (h : HP), n + k = 24 → VwC G h b s S n → ixN n (if n = 0 then t0 else 30) ta → tS S ta 0 = 1 → supN S f = n → FrS (MoI b s t0) (DwL b A) h0 h → (n = 0 → hI h (s + 5 + t0) 6 = hI h0 (s + 5 + t0) 6 ∧ hI h (s + 35) 0 = 0) → (1 ≤ n → hI h0 (s + 5 + t0) 6 = -1) →
      (∀ m S' h2, MoT C jn f m n S ta S' → FrS (fun a _ => a = b + 29 ∨ a = s + 35) (DwL b A) h0 h2 → hI h2 (s + 35) 0 = 0 → Q (some (.int (nI (n + m)))) h2) →
      Ex G d mX11_most 27 [(0, .ref b), (1, .int x1), (2, .int (nI f)), (3, .int (nI t0)), (4, .ref A), (5, .int (nI n))] [] h Q := by
  intro k
  induction k with
  | zero =>
    intro n S ta h hn V e wa sup F hz ho hQ
    obtain rfl : n = 24 := by omega
    refine t_X11_most_27 (by omega) ⟨fun _ => ⟨fun q => absurd q (by decide), fun _ => ⟨V.1, s, V.2.1, V.2.2.2.2.1.1, s_forget V.2.2.2.2.1 ht0 (fun h2 F2 z1 z2 => ⟨rfl, hQ 0 S h2 ⟨rfl, Or.inl rfl⟩ ?_ z1⟩)⟩⟩, fun q => absurd (by decide) q⟩
    have F3 : FrS (MoI b s t0) (DwL b A) h0 h2 := F.tr ((F2.s _).weak (fun a k q => by unfold MoI; omega) (fun _ _ q => q))
    refine ⟨F3.1, F3.2.1, F3.2.2.1, F3.2.2.2.1, fun a k q => ?_, F3.2.2.2.2.2⟩
    by_cases c : a = s + 5 + t0 ∧ k = 6
    · rw [c.1, c.2, z2]
      exact (ho (by omega)).symm
    · exact F3.i (fun z => by unfold MoI at z; omega)
  | succ k ih =>
    intro n S ta h hn V e wa sup F hz ho hQ
    have hp : ∀ a k, MoI b s t0 a k → a < A := fun a k q => by unfold MoI at q; omega
    have K := K0.fs F
    have hpl : hR h b 8 = some (b + 29) := (F.r _ _).trans hpl0
    have Sc := Sc0.fs F hp
    have hj : hI h A 0 = 0 ↔ ¬ jn := by
      rw [F.i (fun z => by have := hp _ _ z; omega)]
      exact hj0
    have n0 : nI n = 0 ↔ n = 0 := nI_eq_iff (b := 0) (by omega) (by omega)
    have fin : ∀ h2, FrS (fun a _ => a = b + 29) (DwL b A) h h2 → moG C jn f S ta = none → ((nI n ≤ 0 → Q (some (.int (nI n))) h2) ∧ (¬ nI n ≤ 0 → Kd G h2 b 11 ∧ ∃ q9, hR h2 b 12 = some q9 ∧ Kd G h2 q9 6 ∧ Cal G (d - 1) mX6_forget [.ref q9, .int (nI t0)] h2 (fun r11 h12 => r11 = none ∧ Q (some (.int (nI n))) h12))) := by
      intro h2 F2 mn
      have F02 : FrS (MoI b s t0) (DwL b A) h0 h2 := F.tr (F2.weak (fun a k q => Or.inl q) (fun _ _ q => q))
      have V2 := V.fs F2 (fun a k q => by omega)
      refine ⟨fun q => ?_, fun q => ⟨V2.1, s, V2.2.1, V2.2.2.2.2.1.1, s_forget V2.2.2.2.2.1 ht0 (fun h3 F3 z1 z2 => ⟨rfl, hQ 0 S h3 ⟨rfl, Or.inr mn⟩ ?_ z1⟩)⟩⟩
      · have c : n = 0 := by
          have := (nI_le_iff (a := n) (b := 0) (by omega) (by omega)).mp q
          omega
        obtain ⟨z1, z2⟩ := hz c
        refine hQ 0 S h2 ⟨rfl, Or.inr mn⟩ ⟨F02.1, F02.2.1, F02.2.2.1, F02.2.2.2.1, fun a k q => ?_, F02.2.2.2.2.2⟩ ((F2.i (by omega)).trans z2)
        by_cases c : a = s + 5 + t0 ∧ k = 6
        · rw [c.1, c.2, F2.i (by omega)]
          exact z1
        · exact F02.i (fun z => by unfold MoI at z; omega)
      · have c : 1 ≤ n := by
          by_cases c : n = 0
          · refine absurd ?_ q
            rw [c]
            decide
          · omega
        have F03 : FrS (MoI b s t0) (DwL b A) h0 h3 := F02.tr ((F3.s _).weak (fun a k q => by unfold MoI; omega) (fun _ _ q => q))
        refine ⟨F03.1, F03.2.1, F03.2.2.1, F03.2.2.2.1, fun a k q => ?_, F03.2.2.2.2.2⟩
        by_cases c' : a = s + 5 + t0 ∧ k = 6
        · rw [c'.1, c'.2, z2]
          exact (ho c).symm
        · exact F03.i (fun z => by unfold MoI at z; omega)
    have go : Ex G d mX11_most 49 [(0, .ref b), (1, .int x1), (2, .int (nI f)), (3, .int (nI t0)), (4, .ref A), (5, .int (nI n))] [.int (nI (if n = 0 then t0 else 30)), .int (nI f), .ref A, .ref b] h Q := by
      refine t_X11_most_49 (by omega) ⟨V.1, s_widens (by omega) V K hpl hs Sc hC hcl hj hf e wa sup (fun mn h2 F2 => ⟨_, rfl, fun _ => fin h2 F2 mn, fun q => absurd rfl q⟩) (fun g mg h2 F2 PL => ⟨_, rfl, fun q => absurd q (by decide), fun _ => ?_⟩)⟩
      have V2 := V.fs F2 (fun a k q => by omega)
      have cv := cgB_iff.mp (firF_sm 9 1 mg).1
      refine ⟨V2.1, s, V2.2.1, b + 29, (F2.r _ _).trans hpl, V2.2.2.2.2.1.1, s_suppose (by omega) V2 (K.fs F2).1 (by omega) PL e (by omega) hf cv wa (fun h3 F3 V3 => ⟨rfl, ?_⟩)⟩
      have Co := V.2.2.2.2.2.1
      have il := ix_lt (ixN_ix e) Co.2.2.2.2.2.1
      have w0 : tS S (30 + n) 0 = 0 := by
        rcases V.2.2.2.2.2.2.1.2.2.1 (30 + n) (by omega) with q | q
        · exact q
        · have := (Co.2.2.2.2.2.2.1 (30 + n) (by omega) (by omega)).mp q
          omega
      have H := canV_blh cv (show 6 ≤ 30 + n by omega) (by omega) w0 il.2 wa (fun c q => by cases q)
      rw [nI_S]
      have E := tS_bld (S := S) (w := 30 + n) (x := tS S ta 1 - nI g) (z := tS S ta 2 - nI g) (tx := tS S ta 3 + nI g) (tz := tS S ta 4 + nI g) (f := nI f) (a := ta) (ob := none)
      refine ih (n + 1) _ (30 + n) h3 (by omega) V3 (Or.inr ⟨by rw [if_neg (by omega)], by omega, by omega⟩) (E.at_ H (by omega)) ?_ ((F.tr (F2.weak (fun a k q => Or.inl q) (fun _ _ q => q))).tr ((F3.s _).weak (fun a k q => ?_) (fun _ _ q => q))) (fun q => by omega) (fun _ => ?_) (fun m S' h4 mt F4 z4 => ?_)
      · rw [supN_bld (by omega) H hf hf, if_pos rfl, sup]
      · unfold MoI
        rcases q with q | q
        · omega
        · by_cases c : n = 0
          · rw [if_pos c] at q
            omega
          · rw [if_neg c] at q
            omega
      · by_cases c : n = 0
        · unfold ixN at e
          rw [if_pos c] at e
          have et : ta = t0 := by omega
          have o := H.2.1.2.2
          rw [et] at o
          have a6 := (Co.at_ (Or.inl ⟨ht0, rfl⟩) (by rw [← et]; exact wa)).2.1 6 (by omega) (by omega)
          rw [o] at a6
          rw [← (hz c).1]
          exact a6
        · exact ho (by omega)
      · have := hQ (m + 1) S' h4 ⟨by omega, g, mg, mt⟩ F4 z4
        rw [show n + (m + 1) = n + 1 + m by omega] at this
        exact this
    refine t_X11_most_27 (by omega) ⟨fun q => ?_, fun _ => ⟨fun c => ?_, fun c => ?_⟩⟩
    · have := (nI_le_iff (a := 24) (b := n) (by omega) (by omega)).mp q
      omega
    · rw [if_neg (fun z => c (n0.mpr z))] at go
      exact go
    · rw [if_pos (n0.mp c)] at go
      exact go
end ML
/-! the reference -/
def MuI (y a k : Nat) : Prop := (a = y ∧ (k = 27 ∨ (31 ≤ k ∧ k ≤ 36))) ∨ (a = y + 13 ∧ 1608 ≤ k ∧ k < 2256)
theorem mo_next {S : Nat → Int32} {C : List Cla} {jn : Prop} {f n a g : Nat} (W : WfR S) (wa : tS S a 0 = 1) (ha : a < 30 + n) (hn : n < 24) (Z : ∀ t, 30 + n ≤ t → t < 54 → tS S t 0 = 0) (cv : canV S C jn f (tS S a 1 - nI g) (tS S a 2 - nI g) (tS S a 3 + nI g) (tS S a 4 + nI g) a none) (hf : f < 12) :
    WfR (moS S (30 + n) f a g) ∧ tS (moS S (30 + n) f a g) (30 + n) 0 = 1 ∧ (∀ t, 30 + (n + 1) ≤ t → t < 54 → tS (moS S (30 + n) f a g) t 0 = 0) ∧ BlH (tS S) (30 + n) a none := by
  have w0 := Z (30 + n) (by omega) (by omega)
  have H := canV_blh cv (show 6 ≤ 30 + n by omega) (by omega) w0 (by omega) wa (fun c q => by cases q)
  have E := tS_bld (S := S) (w := 30 + n) (x := tS S a 1 - nI g) (z := tS S a 2 - nI g) (tx := tS S a 3 + nI g) (tz := tS S a 4 + nI g) (f := nI f) (a := a) (ob := none)
  refine ⟨W.bld cv hf (by omega) (by omega) w0 (by omega) wa, E.at_ H (by omega), fun t h1 h2 => ?_, H⟩
  unfold moS
  rw [E.k h2 (by omega) (by omega) (by omega)]
  exact Z t (by omega) h2
section MR3
variable {G : GG} {d : Nat} {y : Nat} {Q : Option Value → HP → Prop}
theorem r_mostUp {l f : Nat} {x3 : Int32} {C : List Cla} {jn : Prop} (hd : 9 ≤ d) (hl : l < 6) (hf : f < 12) (k16 : ∀ q ∈ C, q.1 ≠ 16) : ∀ (m n : Nat) (S : Nat → Int32) (a : Nat) (S' : Nat → Int32) (h : HP), MoT C jn f m n S a S' → n ≤ 24 → MdSh G h y → said h y = S → WfR S → tS S a 0 = 1 → a < 30 + n → (∀ t, 30 + n ≤ t → t < 54 → tS S t 0 = 0) → LawR h y l (C.filter (fun q => q.1 != 15)) → (hI h (y + 7) l = 1 ↔ jn) →
    (∀ h2 x5 x6, said h2 y = S' → FrS (MuI y) (CnL y) h h2 → Ex G d mX12_most 158 [(0, .ref y), (1, .int (nI l)), (2, .int (nI f)), (3, .int x3), (4, .int (nI (n + m))), (5, .int x5), (6, .int x6), (7, .int (nI (n + m) - 1))] [] h2 Q) →
    Ex G d mX12_most 30 [(0, .ref y), (1, .int (nI l)), (2, .int (nI f)), (3, .int x3), (4, .int (nI n)), (5, .int (nI a)), (6, .int 1)] [] h Q := by
  intro m
  induction m with
  | zero =>
    intro n S a S' h mt hn M eS W wa ha Z L hj hQ
    obtain ⟨rfl, e⟩ := mt
    refine t_X12_most_30 ⟨fun q => absurd q (by decide), fun _ => ⟨fun q => hQ h _ _ eS (frS_rf _ _ _), fun q => ?_⟩⟩
    rcases e with e | e
    · rw [e] at q
      exact absurd (by decide) q
    have loop : ∀ (r g : Nat) (h3 : HP), g + r = 10 → 1 ≤ g → FrS (MuI y) (CnL y) h h3 → said h3 y = S' → firF (cgB S' C jn f a) g r = none → Ex G d mX12_most 48 [(0, .ref y), (1, .int (nI l)), (2, .int (nI f)), (3, .int x3), (4, .int (nI n)), (5, .int (nI a)), (6, .int 0), (7, .int (nI g))] [] h3 Q := by
      intro r
      induction r with
      | zero =>
        intro g h3 hg g1 F3 e3 ef
        obtain rfl : g = 10 := by omega
        exact t_X12_most_48 (by omega) ⟨fun _ => t_X12_most_121 (by omega) ⟨fun q => absurd rfl q, fun _ => t_X12_most_30 ⟨fun _ => hQ h3 _ _ e3 F3, fun q => absurd rfl q⟩⟩, fun q => absurd (by decide) q⟩
      | succ r ih =>
        intro g h3 hg g1 F3 e3 ef
        have M3 := M.fs F3
        have tn : (nI a).toInt = a := ti_nI (by omega)
        rw [firF_step] at ef
        have nc : ¬ cgB S' C jn f a g = true := fun c => by
          rw [if_pos c] at ef
          cases ef
        rw [if_neg nc] at ef
        refine t_X12_most_48 (by omega) ⟨fun q => ?_, fun _ => ⟨fun q => absurd rfl q, fun _ => ⟨M3.1, r_of (t := a) (k := 1) (by omega) M3 tn (by omega) rfl (by omega) ⟨_, rfl, r_of (t := a) (k := 2) (by omega) M3 tn (by omega) rfl (by omega) ⟨_, rfl, r_of (t := a) (k := 3) (by omega) M3 tn (by omega) rfl (by omega) ⟨_, rfl, r_of (t := a) (k := 4) (by omega) M3 tn (by omega) rfl (by omega) ⟨_, rfl, r_thinks (ob := none) M3 (fun h4 F4 T4 => ⟨rfl, ?_⟩)⟩⟩⟩⟩⟩⟩⟩
        · have := (nI_lt_iff (a := 9) (by omega) (by omega)).mp q
          omega
        have F4' : FrS (MuI y) (CnL y) h3 h4 := (F4.s _).weak (fun a k q => by unfold MuI; omega) (fun _ _ q => q)
        have F04 := F3.tr F4'
        have e4 : said h4 y = S' := (funext fun j => F4.i (by omega)).trans e3
        rw [sd_tS, e3] at T4
        refine r_canCome (by omega) (M.fs F04) (by rw [e4]; exact W) T4 hf (by omega) (by rw [e4]; exact wa) (fun c q => by cases q) (L.fs F04 (fun a k q => by unfold MuI at q; omega)) (fun q hq => k16 q (mem_f hq).1) (fun h5 v F5 b01 ev => ⟨_, rfl, ?_⟩)
        have v0 : v = 0 := by
          rcases b01 with z | z
          · exact z
          · refine absurd (cgB_iff.mpr ?_) nc
            have := ev.mp z
            rw [canV_f, e4] at this
            refine ⟨this.1, fun q => absurd rfl q, this.2.2⟩
        rw [v0, nI_S]
        have F5' : FrS (MuI y) (CnL y) h4 h5 := F5.weak (fun a k q => by unfold RkI at q; unfold MuI; omega) (fun _ _ q => q)
        exact ih (g + 1) h5 (by omega) (by omega) (F04.tr F5') ((funext fun j => F5.i (by unfold RkI; omega)).trans e4) ef
    exact loop 9 1 h rfl (by omega) (frS_rf _ _ _) eS e
  | succ m ihm =>
    intro n S a S' h mt hn M eS W wa ha Z L hj hQ
    obtain ⟨hn24, g0, mg, mt⟩ := mt
    have cg0 := firF_sm 9 1 mg
    have cv := cgB_iff.mp cg0.1
    obtain ⟨W1, wa1, Z1, H⟩ := mo_next W wa ha hn24 Z cv hf
    refine t_X12_most_30 ⟨fun q => absurd q (by decide), fun _ => ⟨fun q => ?_, fun q => ?_⟩⟩
    · have := (nI_le_iff (a := 24) (b := n) (by omega) (by omega)).mp q
      omega
    have tail : ∀ (h5 : HP) (x7 : Int32), FrS (MuI y) (CnL y) h h5 → said h5 y = S → ThW h5 y (tS S a 1 - nI g0) (tS S a 2 - nI g0) (tS S a 3 + nI g0) (tS S a 4 + nI g0) a none → Ex G d mX12_most 121 [(0, .ref y), (1, .int (nI l)), (2, .int (nI f)), (3, .int x3), (4, .int (nI n)), (5, .int (nI a)), (6, .int 1), (7, .int x7)] [] h5 Q := by
      intro h5 x7 F5 e5 T5
      have eN : (30 : Int32) + nI n = nI (30 + n) := by
        show nI 30 + nI n = _
        rw [nA]
      refine t_X12_most_121 (by omega) ⟨fun _ => ⟨(M.fs F5).1, ?_⟩, fun q => absurd q (by decide)⟩
      rw [eN, nI_S]
      refine r_builds (by omega) (M.fs F5) T5 (by omega) (by omega) (fun b q => by cases q) (by omega) (by simp) (fun h6 F6 e6 => ⟨rfl, ?_⟩)
      have F6' : FrS (MuI y) (CnL y) h h6 := F5.tr ((F6.s _).weak (fun a k q => Or.inr q) (fun _ _ q => q))
      rw [e5] at e6
      refine ihm (n + 1) _ (30 + n) S' h6 mt (by omega) (M.fs F6') e6 W1 wa1 (by omega) Z1 (L.fs F6' (fun a k q => by unfold MuI at q; omega)) ?_ (fun h7 x5 x6 e7 F7 => ?_)
      · rw [F6'.i (by unfold MuI; omega)]
        exact hj
      · have := hQ h7 x5 x6 e7 (F6'.tr F7)
        rw [show n + (m + 1) = n + 1 + m by omega] at this
        exact this
    have loop : ∀ (r g : Nat) (h3 : HP), g + r = 10 → 1 ≤ g → FrS (MuI y) (CnL y) h h3 → said h3 y = S → firF (cgB S C jn f a) g r = some g0 → Ex G d mX12_most 48 [(0, .ref y), (1, .int (nI l)), (2, .int (nI f)), (3, .int x3), (4, .int (nI n)), (5, .int (nI a)), (6, .int 0), (7, .int (nI g))] [] h3 Q := by
      intro r
      induction r with
      | zero =>
        intro g h3 hg g1 F3 e3 ef
        cases ef
      | succ r ih =>
        intro g h3 hg g1 F3 e3 ef
        have M3 := M.fs F3
        have tn : (nI a).toInt = a := ti_nI (by omega)
        rw [firF_step] at ef
        refine t_X12_most_48 (by omega) ⟨fun q => ?_, fun _ => ⟨fun q => absurd rfl q, fun _ => ⟨M3.1, r_of (t := a) (k := 1) (by omega) M3 tn (by omega) rfl (by omega) ⟨_, rfl, r_of (t := a) (k := 2) (by omega) M3 tn (by omega) rfl (by omega) ⟨_, rfl, r_of (t := a) (k := 3) (by omega) M3 tn (by omega) rfl (by omega) ⟨_, rfl, r_of (t := a) (k := 4) (by omega) M3 tn (by omega) rfl (by omega) ⟨_, rfl, r_thinks (ob := none) M3 (fun h4 F4 T4 => ⟨rfl, ?_⟩)⟩⟩⟩⟩⟩⟩⟩
        · have := (nI_lt_iff (a := 9) (by omega) (by omega)).mp q
          omega
        have F4' : FrS (MuI y) (CnL y) h3 h4 := (F4.s _).weak (fun a k q => by unfold MuI; omega) (fun _ _ q => q)
        have F04 := F3.tr F4'
        have e4 : said h4 y = S := (funext fun j => F4.i (by omega)).trans e3
        rw [sd_tS, e3] at T4
        refine r_canCome (by omega) (M.fs F04) (by rw [e4]; exact W) T4 hf (by omega) (by rw [e4]; exact wa) (fun c q => by cases q) (L.fs F04 (fun a k q => by unfold MuI at q; omega)) (fun q hq => k16 q (mem_f hq).1) (fun h5 v F5 b01 ev => ⟨_, rfl, ?_⟩)
        have F5' : FrS (MuI y) (CnL y) h4 h5 := F5.weak (fun a k q => by unfold RkI at q; unfold MuI; omega) (fun _ _ q => q)
        have e5 : said h5 y = S := (funext fun j => F5.i (by unfold RkI; omega)).trans e4
        have evc : v = 1 ↔ cgB S C jn f a g = true := by
          rw [cgB_iff, ev, canV_f, e4]
          exact ⟨fun z => ⟨z.1, fun q => absurd rfl q, z.2.2⟩, fun z => ⟨z.1, fun q => absurd rfl q, z.2.2⟩⟩
        rw [nI_S]
        rcases b01 with z | z
        · have nc : ¬ cgB S C jn f a g = true := fun c => by
            rw [← evc, z] at c
            exact absurd c (by decide)
          rw [if_neg nc] at ef
          rw [z]
          exact ih (g + 1) h5 (by omega) (by omega) (F04.tr F5') e5 ef
        · rw [if_pos (evc.mp z)] at ef
          obtain rfl : g = g0 := Option.some.inj ef
          rw [z]
          have T5 : ThW h5 y (tS S a 1 - nI g) (tS S a 2 - nI g) (tS S a 3 + nI g) (tS S a 4 + nI g) a none := by
            have e : ∀ k, 31 ≤ k ∧ k ≤ 36 → hI h5 y k = hI h4 y k := fun k hk => F5.i (by unfold RkI; omega)
            unfold ThW
            rw [e _ (by omega), e _ (by omega), e _ (by omega), e _ (by omega), e _ (by omega), e _ (by omega)]
            exact T4
          exact t_X12_most_48 (by omega) ⟨fun _ => tail h5 _ (F04.tr F5') e5 T5, fun _ => ⟨fun _ => tail h5 _ (F04.tr F5') e5 T5, fun q => absurd q (by decide)⟩⟩
    exact loop 9 1 h rfl (by omega) (frS_rf _ _ _) eS mg
theorem r_mostDn {l f : Nat} {x3 x4 x5 x6 : Int32} {C : List Cla} {jn : Prop} (hd : 9 ≤ d) (hf : f < 12) : ∀ (m n : Nat) (S : Nat → Int32) (a : Nat) (S' : Nat → Int32) (h : HP), MoT C jn f m n S a S' → n + m ≤ 24 → MdSh G h y → WfR S → tS S a 0 = 1 → a < 30 + n → (∀ t, 30 + n ≤ t → t < 54 → tS S t 0 = 0) → JnkS (30 + n + m) S' (said h y) →
    (∀ h2, FrI (fun a k => a = y + 13 ∧ 1608 ≤ k ∧ k < 2256) h h2 → JnkS (30 + n) S (said h2 y) → Ex G d mX12_most 158 [(0, .ref y), (1, .int (nI l)), (2, .int (nI f)), (3, .int x3), (4, .int x4), (5, .int x5), (6, .int x6), (7, .int (nI n - 1))] [] h2 Q) →
    Ex G d mX12_most 158 [(0, .ref y), (1, .int (nI l)), (2, .int (nI f)), (3, .int x3), (4, .int x4), (5, .int x5), (6, .int x6), (7, .int (nI (n + m) - 1))] [] h Q := by
  intro m
  induction m with
  | zero =>
    intro n S a S' h mt hn M W wa ha Z J hQ
    obtain ⟨rfl, -⟩ := mt
    exact hQ h (FrI.rf _ _) J
  | succ m ih =>
    intro n S a S' h mt hn M W wa ha Z J hQ
    obtain ⟨hn24, g, mg, mt⟩ := mt
    have cv := cgB_iff.mp (firF_sm 9 1 mg).1
    obtain ⟨W1, wa1, Z1, H⟩ := mo_next W wa ha hn24 Z cv hf
    rw [show n + (m + 1) = n + 1 + m by omega]
    refine ih (n + 1) _ (30 + n) S' h mt (by omega) M W1 wa1 (by omega) Z1 (by rw [show 30 + (n + 1) + m = 30 + n + (m + 1) by omega]; exact J) (fun h2 F2 J2 => ?_)
    have e7 : nI (n + 1) - 1 = nI n := by
      show nI (n + 1) - nI 1 = _
      rw [nS (by omega)]
      rfl
    have eN : (30 : Int32) + nI n = nI (30 + n) := by
      show nI 30 + nI n = _
      rw [nA]
    have M2 := M.fr F2
    rw [e7]
    refine t_X12_most_158 (by omega) ⟨fun q => ?_, fun _ => ⟨M2.1, ?_⟩⟩
    · rw [ti_lt, ti_nI (by omega)] at q
      have : (0 : Int32).toInt = 0 := rfl
      omega
    rw [eN]
    refine r_pulls (by omega) M2 (by omega) (fun h3 F3 v3 => ⟨rfl, ?_⟩)
    have e3 : said h3 y = pulS (said h2 y) (30 + n) := funext fun j => by
      by_cases c : 1608 ≤ j ∧ j < 2256
      · have := v3 ((j - 1608) / 12) ((j - 1608) % 12) (by omega) (by omega)
        rw [← tS_pul (by omega) (by omega)] at this
        unfold tS at this
        rw [show 1608 + 12 * ((j - 1608) / 12) + (j - 1608) % 12 = j by omega] at this
        exact this
      · rw [pul_off c]
        exact F3.i (fun z => c z.2)
    have J3 : JnkS (30 + n) S (said h3 y) := by
      rw [e3]
      exact JnkS.pul (c := S 0) (r := S 1) (by omega) (by omega) W.2.2.2.1 H ha (by rw [show 30 + n + 1 = 30 + (n + 1) by omega]; exact J2)
    have := hQ h3 (F2.tr F3) J3
    rw [show nI n - 1 = nI n + -1 from Int32.sub_eq_add_neg ..] at this
    exact this
end MR3
theorem MoT.zr {C : List Cla} {jn : Prop} {f : Nat} (hf : f < 12) : ∀ {m n : Nat} {S : Nat → Int32} {a : Nat} {S' : Nat → Int32}, MoT C jn f m n S a S' → WfR S → tS S a 0 = 1 → a < 30 + n → (∀ t, 30 + n ≤ t → t < 54 → tS S t 0 = 0) → n ≤ 24 → n + m ≤ 24 ∧ ∀ t, 30 + (n + m) ≤ t → t < 54 → tS S' t 0 = 0
  | 0, n, S, a, S', h, _, _, _, Z, hn => by
    obtain ⟨rfl, -⟩ := h
    exact ⟨hn, Z⟩
  | m + 1, n, S, a, S', h, W, wa, ha, Z, hn => by
    obtain ⟨hn24, g, mg, mt⟩ := h
    have cv := cgB_iff.mp (firF_sm 9 1 mg).1
    obtain ⟨W1, wa1, Z1, H⟩ := mo_next W wa ha hn24 Z cv hf
    have := MoT.zr hf mt W1 wa1 (by omega) Z1 (by omega)
    rw [show n + (m + 1) = n + 1 + m by omega]
    exact this
