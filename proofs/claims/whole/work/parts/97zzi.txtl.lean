/-! ===== a text is read by the reference: all of it ===== -/
section TM
variable {G : GG} {d : Nat} {y : Nat} {B : Nat → Int32} {n t k : Nat} {wish : Bool} {Q : Option Value → HP → Prop}
theorem f13_tx {a k : Nat} (z : F13 y a k) : TxF y t a k := by unfold F13 at z; exact Or.inl ⟨z.1, by omega⟩
theorem f135_tx {a k : Nat} (z : F135 y a k) : TxF y t a k := by unfold F135 at z; exact Or.inl ⟨z.1, by omega⟩
theorem ts_tx {a k : Nat} (z : TsF y t a k) : TxF y t a k := by
  rcases z with (z | z | z) | z | z
  · exact Or.inl ⟨z.1, by omega⟩
  · exact Or.inr (Or.inr (Or.inl z))
  · exact Or.inr (Or.inl z)
  · exact Or.inl ⟨z.1, by omega⟩
  · exact Or.inr (Or.inr (Or.inr (Or.inr (Or.inr (Or.inr z)))))
theorem cf_tx {N a k : Nat} (hN : N < 12) (z : ClF y t N a k) : TxF y t a k := by
  rcases z with z | z | z
  · exact ts_tx z
  · exact Or.inr (Or.inr (Or.inr (Or.inl ⟨z.1, by omega, by omega⟩)))
  · exact Or.inr (Or.inr (Or.inr (Or.inr (Or.inl z))))
theorem RQT.w {R : Nat ⊕ TSt} {h h1 : HP} (W : RQT G y B n t R h Q) (F : FrI (TxF y t) h h1) : RQT G y B n t R h1 Q := ⟨fun e he h2 F2 f2 => W.1 e he h2 (F.tr F2) f2, fun s hs h2 F2 L2 => W.2 s hs h2 (F.tr F2) L2⟩
theorem RQT.bz {R : Nat ⊕ TSt} {h : HP} (W : RQT G y B n t R h Q) : RQT G y B n t R h (fun r h2 => ∃ v, r = some (.int v) ∧ ((v = 0 ∨ v = 1) ∧ Q (some (.int v)) h2)) := ⟨fun e he h2 F2 f2 => ⟨_, rfl, Or.inl rfl, W.1 e he h2 F2 f2⟩, fun s hs h2 F2 L2 => ⟨_, rfl, Or.inr rfl, W.2 s hs h2 F2 L2⟩⟩
theorem LdT.fr {h h2 : HP} {s : TSt} {x : Nat} (L : LdT G h y B n t s) (F : FrI (F13 y) h h2) (X : RdX G h2 y B n x) : LdT G h2 y B n t (x, s.2) := by
  obtain ⟨l1, l2, l3, l4, l5⟩ := L
  have ei : ∀ a k, ¬ F13 y a k → hI h2 a k = hI h a k := fun a k ha => F.i ha
  refine ⟨l1.f13 F X, (ei _ _ (by unfold F13; omega)).trans l2, (ei _ _ (by unfold F13; omega)).trans l3, fun i q hq => ?_, (ei _ _ (by unfold F13; omega)).trans l5⟩
  have := (l4 i q hq).up [] (fun k _ _ => ei (y + 5) k (by unfold F13; omega))
  rw [List.append_nil] at this
  exact this
theorem r_clauseT {h : HP} {s : TSt} (hd : 16 ≤ d) (hk : n < k) (hw : wish = decide (6 ≤ t)) (S : TsP B n wish s) (L : LdT G h y B n t s) (R : RQT G y B n t (claR B n k wish s) h Q) : Cal G d mX12_clauseHere [.ref y] h Q := by
  have t12 := L.1.2.2.2.2
  have sn : s.1 ≤ n := S.1.1
  have s60 := S.2.1
  have s12 := S.2.2.1
  have sc := S.2.2.2.1
  have sj := S.2.2.2.2.2
  have l15 := cl15_len s.2.2.1
  have cl := codeT_len s.2.2.1
  have wd : ∀ (D k : Nat) (w : Int64) (h' : HP) (Q' : Option Value → HP → Prop), 1 ≤ D → k < 23 → w = Int64.ofNat (pkL (wds.getD k [])) → RdE G h' y B n s.1 → (∀ h2, FrI (F13 y) h' h2 → RdE G h2 y B n s.1 → kdT B n s.1 = 1 → vlT B n s.1 = nI k → Q' (some (.int 1)) h2) → (∀ h2, FrI (F13 y) h' h2 → RdE G h2 y B n s.1 → ¬ (kdT B n s.1 = 1 ∧ vlT B n s.1 = nI k) → Q' (some (.int 0)) h2) → Cal G D mX12_isWord [.ref y, .long w] h' Q' := fun D k w h' Q' hD hk hw E a b => r_isWord hD E.x hk hw (fun x1 x2 h2 F2 E2 => a h2 F2 E2 x1 x2) (fun x h2 F2 E2 => b h2 F2 E2 x)
  have ld : ∀ h', FrI (F13 y) h h' → RdE G h' y B n s.1 → LdT G h' y B n t s := fun h' F E => L.fr F E.x
  have ne12 : ∀ h', LdT G h' y B n t s → ¬ hI h' y 16 = 12 := fun h' L' z => by
    rw [L'.1.2.1.2.1] at z
    have := (nI_eq_iff (b := 12) (by omega) (by omega)).mp z
    omega
  have bad : ∀ (k' : Nat) (x : Int32) h', x = nI k' → FrI (F13 y) h h' → RdE G h' y B n s.1 → claR B n k wish s = .inl (1 + 8 * s.1 + k') → Cal G (d - 1) mX12_fails [.ref y, .int x, .int (nI s.1)] h' (fun r4 h5 => ∃ v8, r4 = some (.int v8) ∧ ((v8 = 0 ∨ v8 = 1) ∧ Q (some (.int v8)) h5)) := fun k' x h' hx F E e => r_fails E.1 (ld h' F E).1.2.1.1 hx ⟨_, rfl, Or.inl rfl, R.1 _ e _ ((F.weak (fun a k z => f13_tx z)).tr (FrI.sI (P := TxF y t) h' _ (Or.inl ⟨rfl, by omega⟩))) (hI_eq _ _ _ _)⟩
  have K179 : ∀ h' x2 x3 x4, FrI (F13 y) h h' → RdE G h' y B n s.1 → kwT B n wish s.1 → Ex G d mX12_clauseHere 179 [(0, .ref y), (1, .int (nI s.1)), (2, .int x2), (3, .int x3), (4, .int x4)] [.int 12, .int (nI s.2.2.1.length)] h' Q := fun h' x2 x3 x4 F E kw => by
    refine t_X12_clauseHere_179 (by omega) ⟨fun nz => ⟨E.1.1, fun _ => ?_, fun z => ?_⟩, fun z => ⟨E.1.1, bad 4 4 h' rfl F E (cr_b4 kw (Or.inl ?_))⟩⟩
    rotate_left
    · rw [hI_ne _ _ (Or.inr (by omega))] at z
      exact absurd z (ne12 h' (ld h' F E))
    · have := (nI_eq_iff (b := 12) (by omega) (by omega)).mp z
      omega
    have c12 : ¬ 12 ≤ s.2.2.1.length := fun q => nz (by rw [show s.2.2.1.length = 12 by omega]; rfl)
    have L1 := ld h' F E
    rw [L1.2.1, nI_S]
    generalize g2 : sI h' y 19 (nI (s.2.2.1.length + 1)) = h2
    have F2 : FrI (fun a k => a = y ∧ k = 19) h' h2 := by
      rw [← g2]
      exact FrI.sI h' _ ⟨rfl, rfl⟩
    have v19 : hI h2 y 19 = nI (s.2.2.1.length + 1) := by rw [← g2, hI_eq]
    have E2 : RdE G h2 y B n s.1 := E.fi F2 (fun a k z => by omega)
    have FT2 : FrI (TxF y t) h h2 := (F.weak (fun a k z => f13_tx z)).tr (F2.weak (fun a k z => Or.inl ⟨z.1, by omega⟩))
    -- what holds still at a heap behind h2
    have at3 : ∀ h3, FrI (F13 y) h2 h3 → RdE G h3 y B n s.1 → TxR G h3 y B n t s.1 s.2.1 (codeT s.2.2.1) ∧ hI h3 y 19 = nI (s.2.2.1.length + 1) ∧ hI h3 (y + 6) t = nI (cl15 s.2.2.1).length ∧ hI h3 (y + 7) t = jnI s.2.2.2 ∧ (∀ k, hI h3 (y + 5) k = hI h' (y + 5) k) ∧ FrI (TxF y t) h h3 := fun h3 F3 E3 => by
      obtain ⟨⟨-, ⟨a1, a2, a3⟩, a4, a5, a6⟩, -, l3, -, l5⟩ := L1
      have ei : ∀ a k, ¬ (a = y ∧ (k = 13 ∨ k = 19)) → hI h3 a k = hI h' a k := fun a k ha => (F3.i (by unfold F13; omega)).trans (F2.i (by omega))
      exact ⟨⟨E3.x, ⟨(ei _ _ (by omega)).trans a1, (ei _ _ (by omega)).trans a2, (ei _ _ (by omega)).trans a3⟩, (ei _ _ (by omega)).trans a4, a5.fr (fun j _ => ei _ _ (by omega)), a6⟩, (F3.i (by unfold F13; omega)).trans v19, (ei _ _ (by omega)).trans l3, (ei _ _ (by omega)).trans l5, fun k => ei _ _ (by omega), FT2.tr (F3.weak (fun a k z => f13_tx z))⟩
    have cls : ∀ (c : Nat) (x : Int32) h3, (c = 12 ∨ c = 13 ∨ c = 14 ∨ c = 16) → x = nI (srt c) → vlT B n s.1 = nI c → FrI (F13 y) h2 h3 → RdE G h3 y B n s.1 → Cal G (d - 1) mX12_clauseOf [.ref y, .int x] h3 (fun r h2 => ∃ v, r = some (.int v) ∧ ((v = 0 ∨ v = 1) ∧ Q (some (.int v)) h2)) := fun c x h3 hc hx v F3 E3 => by
      obtain ⟨T3, q19, q6, q7, q5, FT3⟩ := at3 h3 F3 E3
      have nt : ¬ tmT B n s := fun q => by
        rcases q with q | q
        · exact c12 q
        · rw [v] at q
          have := (nI_eq_iff (b := 15) (by omega) (by omega)).mp q.1
          omega
      have ec := cl_cr (k := k) kw nt v hc
      have sr3 : srt c < 3 := by rcases hc with rfl | rfl | rfl | rfl <;> decide
      refine r_clauseOf (k := k) (by omega) hx E3 kw.1 hk s60 (by omega) sr3 T3 q6 (by omega) (fun e he h4 F4 f4 => ⟨_, rfl, Or.inl rfl, R.1 e (by rw [ec, he]; rfl) h4 (FT3.tr (F4.weak (fun a k z => cf_tx (by omega) z))) f4⟩) (fun x hx h4 F4 T4 z6 c4 => ⟨_, rfl, Or.inr rfl, R.2 (x.1, x.2.1, s.2.2.1 ++ [(c, x.2.2.1, x.2.2.2)], s.2.2.2) (by rw [ec, hx]; rfl) h4 (FT3.tr (F4.weak (fun a k z => cf_tx (by omega) z))) ?_⟩)
      have n15 : ¬ c = 15 := by omega
      have e15 : cl15 (s.2.2.1 ++ [(c, x.2.2.1, x.2.2.2)]) = cl15 s.2.2.1 ++ [(c, x.2.2.1, x.2.2.2)] := (cl15_app _ _).trans (if_neg n15)
      have ecd : codeT (s.2.2.1 ++ [(c, x.2.2.1, x.2.2.2)]) = codeT s.2.2.1 ++ x.2.2.1 ++ x.2.2.2.getD [] := codeT_app _ _
      refine ⟨?_, ?_, ?_, fun i q hq => ?_, ?_⟩
      · show TxR G h4 y B n t x.1 x.2.1 (codeT (s.2.2.1 ++ [(c, x.2.2.1, x.2.2.2)]))
        rw [ecd]
        exact T4
      · show hI h4 y 19 = nI (s.2.2.1 ++ [(c, x.2.2.1, x.2.2.2)]).length
        rw [List.length_append]
        exact (F4.i (fun z => by unfold ClF TsF SmF at z; omega)).trans q19
      · show hI h4 (y + 6) t = nI (cl15 (s.2.2.1 ++ [(c, x.2.2.1, x.2.2.2)])).length
        rw [e15, List.length_append]
        exact z6
      · have hq' : (cl15 (s.2.2.1 ++ [(c, x.2.2.1, x.2.2.2)]))[i]? = some q := hq
        show RwS h4 y t (codeT (s.2.2.1 ++ [(c, x.2.2.1, x.2.2.2)])) i q
        rw [ecd]
        rw [e15, List.getElem?_append] at hq'
        by_cases hi : i < (cl15 s.2.2.1).length
        · rw [if_pos hi] at hq'
          rw [List.append_assoc]
          exact (L1.2.2.2.1 i q hq').up _ (fun k k1 k2 => (F4.i (fun z => by unfold ClF TsF SmF at z; omega)).trans (q5 k))
        · rw [if_neg hi, List.getElem?_singleton] at hq'
          split at hq'
          · obtain rfl := Option.some.inj hq'
            rw [show i = (cl15 s.2.2.1).length by omega]
            exact c4.row rfl
          · cases hq'
      · exact (F4.i (fun z => by unfold ClF TsF SmF at z; omega)).trans q7
    refine wd _ 15 _ _ _ (by omega) (by omega) (by decide) E2 (fun h3 F3 E3 _ v => ⟨_, rfl, fun z => absurd z (by decide), fun _ => ?_⟩) (fun h3 F3 E3 n15 => ⟨_, rfl, fun _ => ?_, fun z => absurd rfl z⟩)
    · obtain ⟨T3, q19, q6, q7, q5, FT3⟩ := at3 h3 F3 E3
      refine r_joins (by omega) E3 kw.1 T3 q7 sj (fun e he h4 F4 f4 => ⟨_, rfl, Or.inl rfl, R.1 e ?_ h4 (FT3.tr (F4.weak (fun a k z => ?_))) f4⟩) (fun jn a ha h4 F4 T4 z7 => ⟨_, rfl, Or.inr rfl, R.2 (a.2, s.2.1, s.2.2.1 ++ [(15, [], none)], some a.1) ?_ h4 (FT3.tr (F4.weak (fun a k z => ?_))) ?_⟩)
      · rcases he with ⟨nj, rfl⟩ | ⟨jn, e1⟩
        · exact cr_b4 kw (Or.inr ⟨v, nj⟩)
        · rw [cr_15 kw (fun q => q.elim c12 (fun q => q.2 jn)) v, e1]
          rfl
      · exact z.elim f135_tx (fun q => Or.inr (Or.inr (Or.inr (Or.inr (Or.inr (Or.inl q))))))
      · rw [cr_15 kw (fun q => q.elim c12 (fun q => q.2 jn)) v, ha]
        rfl
      · exact z.elim f135_tx (fun q => Or.inr (Or.inr (Or.inr (Or.inr (Or.inr (Or.inl q))))))
      · have e15 : cl15 (s.2.2.1 ++ [(15, [], none)]) = cl15 s.2.2.1 := (cl15_app _ _).trans (if_pos rfl)
        have ecd : codeT (s.2.2.1 ++ [(15, [], none)]) = codeT s.2.2.1 := by
          rw [codeT_app]
          show codeT s.2.2.1 ++ [] ++ [] = _
          rw [List.append_nil, List.append_nil]
        have ei : ∀ a k, ¬ (F135 y a k ∨ (a = y + 7 ∧ k = t)) → hI h4 a k = hI h3 a k := fun a k z => F4.i z
        refine ⟨?_, ?_, ?_, fun i q hq => ?_, z7⟩
        · show TxR G h4 y B n t a.2 s.2.1 (codeT (s.2.2.1 ++ [(15, [], none)]))
          rw [ecd]
          exact T4
        · show hI h4 y 19 = nI (s.2.2.1 ++ [(15, [], none)]).length
          rw [List.length_append]
          exact (ei _ _ (by unfold F135; omega)).trans q19
        · show hI h4 (y + 6) t = nI (cl15 (s.2.2.1 ++ [(15, [], none)])).length
          rw [e15]
          exact (ei _ _ (by unfold F135; omega)).trans q6
        · have hq' : (cl15 (s.2.2.1 ++ [(15, [], none)]))[i]? = some q := hq
          show RwS h4 y t (codeT (s.2.2.1 ++ [(15, [], none)])) i q
          rw [e15] at hq'
          rw [ecd]
          have := (L1.2.2.2.1 i q hq').up (h2 := h4) [] (fun k _ _ => (ei _ _ (by unfold F135; omega)).trans (q5 k))
          rw [List.append_nil] at this
          exact this
    refine wd _ 13 _ _ _ (by omega) (by omega) (by decide) E3 (fun h4 F4 E4 _ v => ⟨_, rfl, fun z => absurd z (by decide), fun _ => cls 13 1 h4 (by omega) rfl v (F3.tr F4) E4⟩) (fun h4 F4 E4 n13 => ⟨_, rfl, fun _ => ?_, fun z => absurd rfl z⟩)
    refine wd _ 14 _ _ _ (by omega) (by omega) (by decide) E4 (fun h5 F5 E5 _ v => ⟨_, rfl, fun z => absurd z (by decide), fun _ => cls 14 2 h5 (by omega) rfl v ((F3.tr F4).tr F5) E5⟩) (fun h5 F5 E5 n14 => ⟨_, rfl, fun _ => ?_, fun z => absurd rfl z⟩)
    rcases kw.cs with v | (v | v) | (v | v)
    · exact absurd ⟨kw.1, v⟩ n15
    · exact absurd ⟨kw.1, v⟩ n13
    · exact absurd ⟨kw.1, v⟩ n14
    · exact cls 12 0 h5 (by omega) rfl v ((F3.tr F4).tr F5) E5
    · exact cls 16 0 h5 (by omega) rfl v ((F3.tr F4).tr F5) E5
  have K145 : ∀ h' x2 x3 x4, FrI (F13 y) h h' → RdE G h' y B n s.1 → ((x4 = 1 ∧ kwT B n wish s.1) ∨ (x4 = 0 ∧ ¬ kwT B n wish s.1)) → Ex G d mX12_clauseHere 145 [(0, .ref y), (1, .int (nI s.1)), (2, .int x2), (3, .int x3)] [.int x4] h' Q := fun h' x2 x3 x4 F E cs => by
    have L1 := ld h' F E
    refine t_X12_clauseHere_145 (by omega) ⟨fun nz => ⟨E.1.1, fun _ => ?_, fun z => absurd z (ne12 h' L1)⟩, fun z => ⟨E.1.1, bad 0 0 h' rfl F E (cr_b0 ?_)⟩⟩
    · rw [L1.2.1]
      rcases cs with ⟨-, kw⟩ | ⟨e, -⟩
      · exact K179 h' x2 x3 x4 F E kw
      · exact absurd e nz
    · rcases cs with ⟨e, -⟩ | ⟨-, kw⟩
      · rw [z] at e
        exact absurd e (by decide)
      · exact kw
  have K111 : ∀ h' x2 x, FrI (F13 y) h h' → RdE G h' y B n s.1 → ((x = 1 ∧ kwT B n false s.1) ∨ (x = 0 ∧ ¬ kwT B n false s.1)) → Ex G d mX12_clauseHere 111 [(0, .ref y), (1, .int (nI s.1)), (2, .int x2)] [.int x] h' Q := fun h' x2 x F E cs => by
    have L1 := ld h' F E
    refine t_X12_clauseHere_111 (by omega) ⟨E.1.1, fun _ => ?_, fun z => absurd z (ne12 h' L1)⟩
    rw [L1.1.2.1.2.1]
    refine ⟨fun z => ?_, fun z => ?_⟩
    · have t6 : 6 ≤ t := (nI_le_iff (a := 6) (by omega) (by omega)).mp z
      have wt : wish = true := by rw [hw]; exact decide_eq_true t6
      refine wd _ 16 _ _ _ (by omega) (by omega) (by decide) E (fun h3 F3 E3 k1 v => ⟨_, rfl, K145 h3 x2 x 1 (F.tr F3) E3 (Or.inl ⟨rfl, k1, Or.inl ⟨wt, v⟩⟩)⟩) (fun h3 F3 E3 n16 => ⟨_, rfl, K145 h3 x2 x 0 (F.tr F3) E3 (Or.inr ⟨rfl, fun q => ?_⟩)⟩)
      rcases q.2 with q2 | q2
      · exact n16 ⟨q.1, q2.2⟩
      · rw [wt] at q2
        exact absurd q2.1 (by decide)
    · have t6 : ¬ 6 ≤ t := fun q => z ((nI_le_iff (a := 6) (by omega) (by omega)).mpr q)
      have wt : wish = false := by rw [hw]; exact decide_eq_false t6
      exact K145 h' x2 x x F E (by rw [wt]; exact cs)
  have K65 : ∀ h' x2, FrI (F13 y) h h' → RdE G h' y B n s.1 → Ex G d mX12_clauseHere 65 [(0, .ref y), (1, .int (nI s.1))] [.int x2] h' Q := fun h' x2 F E => t_X12_clauseHere_65 (by omega) ⟨E.1.1, wd _ 12 _ _ _ (by omega) (by omega) (by decide) E (fun h3 F3 E3 k1 v => ⟨_, rfl, fun _ => K111 h3 x2 1 (F.tr F3) E3 (Or.inl ⟨rfl, k1, Or.inr ⟨rfl, Or.inl v⟩⟩), fun z => absurd z (by decide)⟩) (fun h3 F3 E3 n12 => ⟨_, rfl, fun z => absurd rfl z, fun _ => wd _ 13 _ _ _ (by omega) (by omega) (by decide) E3 (fun h4 F4 E4 k1 v => ⟨_, rfl, fun _ => K111 h4 x2 1 ((F.tr F3).tr F4) E4 (Or.inl ⟨rfl, k1, Or.inr ⟨rfl, Or.inr (Or.inl v)⟩⟩), fun z => absurd z (by decide)⟩) (fun h4 F4 E4 n13 => ⟨_, rfl, fun z => absurd rfl z, fun _ => wd _ 14 _ _ _ (by omega) (by omega) (by decide) E4 (fun h5 F5 E5 k1 v => ⟨_, rfl, fun _ => K111 h5 x2 1 (((F.tr F3).tr F4).tr F5) E5 (Or.inl ⟨rfl, k1, Or.inr ⟨rfl, Or.inr (Or.inr (Or.inl v))⟩⟩), fun z => absurd z (by decide)⟩) (fun h5 F5 E5 n14 => ⟨_, rfl, fun z => absurd rfl z, fun _ => wd _ 15 _ _ _ (by omega) (by omega) (by decide) E5 (fun h6 F6 E6 k1 v => ⟨_, rfl, fun z => absurd z (by decide), fun _ => K111 h6 x2 1 ((((F.tr F3).tr F4).tr F5).tr F6) E6 (Or.inl ⟨rfl, k1, Or.inr ⟨rfl, Or.inr (Or.inr (Or.inr v))⟩⟩)⟩) (fun h6 F6 E6 n15 => ⟨_, rfl, fun _ => K111 h6 x2 0 ((((F.tr F3).tr F4).tr F5).tr F6) E6 (Or.inr ⟨rfl, fun q => by
    rcases q.2 with q2 | ⟨-, q2 | q2 | q2 | q2⟩
    · exact absurd q2.1 (by decide)
    · exact n12 ⟨q.1, q2⟩
    · exact n13 ⟨q.1, q2⟩
    · exact n14 ⟨q.1, q2⟩
    · exact n15 ⟨q.1, q2⟩⟩), fun z => absurd rfl z⟩)⟩)⟩)⟩)⟩
  refine e_X12_clauseHere (by omega) ⟨L.1.1.1.1, r_see L.1.1 (fun h2 F2 E2 => ⟨_, rfl, ?_⟩)⟩
  rw [E2.2.2.1]
  refine wd _ 20 _ _ _ (by omega) (by omega) (by decide) E2 (fun h3 F3 E3 k1 v => ⟨_, rfl, fun _ => K65 h3 1 (F2.tr F3) E3, fun z => absurd z (by decide)⟩) (fun h3 F3 E3 n20 => ⟨_, rfl, fun z => absurd rfl z, fun _ => ?_⟩)
  refine wd _ 4 _ _ _ (by omega) (by omega) (by decide) E3 (fun h4 F4 E4 k1 v => ⟨_, rfl, fun _ => K65 h4 1 ((F2.tr F3).tr F4) E4, fun z => absurd z (by decide)⟩) (fun h4 F4 E4 n4 => ⟨_, rfl, fun z => absurd rfl z, fun _ => ?_⟩)
  refine wd _ 6 _ _ _ (by omega) (by omega) (by decide) E4 (fun h5 F5 E5 k1 v => ⟨_, rfl, fun _ => K65 h5 1 (((F2.tr F3).tr F4).tr F5) E5, fun z => absurd z (by decide)⟩) (fun h5 F5 E5 n6 => ⟨_, rfl, fun z => absurd rfl z, fun _ => ?_⟩)
  refine wd _ 21 _ _ _ (by omega) (by omega) (by decide) E5 (fun h6 F6 E6 k1 v => ⟨_, rfl, fun _ => K65 h6 1 ((((F2.tr F3).tr F4).tr F5).tr F6) E6, fun z => absurd z (by decide)⟩) (fun h6 F6 E6 n21 => ⟨_, rfl, fun z => absurd rfl z, fun _ => ?_⟩)
  exact wd _ 22 _ _ _ (by omega) (by omega) (by decide) E6 (fun h7 F7 E7 k1 v => ⟨_, rfl, fun z => absurd z (by decide), fun _ => K65 h7 1 (((((F2.tr F3).tr F4).tr F5).tr F6).tr F7) E7⟩) (fun h7 F7 E7 n22 => ⟨_, rfl, fun _ => K65 h7 0 (((((F2.tr F3).tr F4).tr F5).tr F6).tr F7) E7, fun z => absurd rfl z⟩)
theorem txF_inl (hk : n < k) {f : Nat} : ∀ {s : TSt} {e : Nat}, s.2.2.1.length + f = 12 → TsP B n wish s → txF B n k wish (f + 1) s = .inl e → 1 ≤ e ∧ e ≤ 1 + 8 * n + 5 := by
  induction f with
  | zero =>
    intro s e hc S h
    cases hh : claR B n k wish s with
    | inl e' =>
      rw [txF_1 hh] at h
      obtain rfl := Sum.inl.inj h
      exact claR_inl hk S hh
    | inr t =>
      have := (claR_inr hk S hh).2.1
      omega
  | succ f ih =>
    intro s e hc S h
    cases hh : claR B n k wish s with
    | inl e' =>
      rw [txF_1 hh] at h
      obtain rfl := Sum.inl.inj h
      exact claR_inl hk S hh
    | inr t =>
      obtain ⟨T, -, -, tl⟩ := claR_inr hk S hh
      have tn : t.1 ≤ n := T.1.1
      by_cases z : kdT B n t.1 = 0
      · rw [txF_2 hh z] at h
        cases h
      · by_cases w : kdT B n t.1 = 3 ∧ vlT B n t.1 = 59
        · rw [txF_3 hh w] at h
          exact ih (s := (nxP B n t.1, t.2)) (by show t.2.2.1.length + f = 12; omega) (T.nx tn) h
        · rw [txF_4 hh z w] at h
          obtain rfl := Sum.inl.inj h
          omega
theorem txF_inr (hk : n < k) {f : Nat} : ∀ {s t : TSt}, TsP B n wish s → txF B n k wish f s = .inr t → TsP B n wish t := by
  induction f with
  | zero =>
    intro s t S h
    cases h
  | succ f ih =>
    intro s t S h
    cases hh : claR B n k wish s with
    | inl e' =>
      rw [txF_1 hh] at h
      cases h
    | inr u =>
      obtain ⟨T, -, -, tl⟩ := claR_inr hk S hh
      by_cases z : kdT B n u.1 = 0
      · rw [txF_2 hh z] at h
        obtain rfl := Sum.inr.inj h
        exact T
      · by_cases w : kdT B n u.1 = 3 ∧ vlT B n u.1 = 59
        · rw [txF_3 hh w] at h
          exact ih (T.nx T.1.1) h
        · rw [txF_4 hh z w] at h
          cases h
theorem r_readsAllT {h : HP} (hd : 17 ≤ d) (hk : n < k) (hw : wish = decide (6 ≤ t)) (t12 : t < 12) (M : MdSh G h y) (E : RtB h y B n) (e16 : hI h y 16 = nI t) (e6 : hI h (y + 6) t = 0) (e7 : hI h (y + 7) t = -1) (h0 : ∀ e, txF B n k wish 13 (TS0 B n) = .inl e → ∀ h2, FrI (TxF y t) h h2 → hI h2 y 14 = nI e → Q (some (.int 0)) h2) (h1 : ∀ s, txF B n k wish 13 (TS0 B n) = .inr s → ∀ h2, FrI (TxF y t) h h2 → LdT G h2 y B n t s → Q (some (.int 1)) h2) : Cal G d mX12_readsAll [.ref y] h Q := by
  have n400 := E.2.1
  obtain ⟨-, m1, m2, m3⟩ := M.tx
  refine e_X12_readsAll (by omega) ⟨M.1, y + 4, m1, m2, by rw [e16, m3]; exact vin_nI (by omega) (by omega), ?_⟩
  rw [e16, cl_nI (by omega)]
  generalize g1 : sI (sI (sI (sI (sI h (y + 4) t 0) y 19 0) y 13 0) y 14 0) y 17 0 = h2
  have F2 : FrI (fun a k => (a = y + 4 ∧ k = t) ∨ (a = y ∧ (k = 13 ∨ k = 14 ∨ k = 17 ∨ k = 19))) h h2 := by
    have st : ∀ (h : HP) k v, (k = 13 ∨ k = 14 ∨ k = 17 ∨ k = 19) → FrI (fun a k => (a = y + 4 ∧ k = t) ∨ (a = y ∧ (k = 13 ∨ k = 14 ∨ k = 17 ∨ k = 19))) h (sI h y k v) := fun h k v hk => FrI.sI h v (Or.inr ⟨rfl, hk⟩)
    rw [← g1]
    exact ((((FrI.sI (P := fun a k => (a = y + 4 ∧ k = t) ∨ (a = y ∧ (k = 13 ∨ k = 14 ∨ k = 17 ∨ k = 19))) h _ (Or.inl ⟨rfl, rfl⟩)).tr (st _ 19 _ (by omega))).tr (st _ 13 _ (by omega))).tr (st _ 14 _ (by omega))).tr (st _ 17 _ (by omega))
  have FL : FrI (TxF y t) h h2 := F2.weak (fun a k z => z.elim (fun z => Or.inr (Or.inr (Or.inl z))) (fun z => Or.inl ⟨z.1, by omega⟩))
  have v4 : hI h2 (y + 4) t = 0 := by
    rw [← g1, hI_ne _ _ (Or.inl (by omega)), hI_ne _ _ (Or.inl (by omega)), hI_ne _ _ (Or.inl (by omega)), hI_ne _ _ (Or.inl (by omega)), hI_eq]
  have v13 : hI h2 y 13 = 0 ∧ hI h2 y 14 = 0 ∧ hI h2 y 19 = 0 ∧ hI h2 y 17 = 0 := by
    rw [← g1]
    simp [hI_sI]
  have E2 : RtB h2 y B n := E.fi F2 (fun a k z => by omega)
  have X2 : RdX G h2 y B n (TS0 B n).1 := ⟨M.fr F2, E2, 0, by omega, v13.1, rfl⟩
  have L2 : LdT G h2 y B n t (TS0 B n) := by
    refine ⟨⟨X2, ⟨v13.2.1, (F2.i (by omega)).trans e16, v13.2.2.2⟩, v4, fun j q hq => ?_, t12⟩, v13.2.2.1, (F2.i (by omega)).trans e6, fun i q hq => ?_, (F2.i (by omega)).trans e7⟩
    · have hq' : ([] : List Tok)[j]? = some q := hq
      simp at hq'
    · have hq' : ([] : List Cla)[i]? = some q := hq
      simp at hq'
  have ng : ∀ e h5, txF B n k wish 13 (TS0 B n) = .inl e → FrI (TxF y t) h h5 → hI h5 y 14 = nI e → ((¬ (hI h5 y 14) = 0 → Q (some (.int 0)) h5) ∧ ((hI h5 y 14) = 0 → Q (some (.int 1)) h5)) := fun e h5 he F f => by
    have := txF_inl hk (f := 12) (s := TS0 B n) rfl (ts0_p B n wish) he
    refine ⟨fun _ => h0 e he h5 F f, fun z => ?_⟩
    rw [f] at z
    have := (nI_eq_iff (b := 0) (by omega) (by omega)).mp z
    omega
  have ng66 : ∀ e h5, txF B n k wish 13 (TS0 B n) = .inl e → FrI (TxF y t) h h5 → hI h5 y 14 = nI e → Ex G d mX12_readsAll 35 [(0, .ref y), (1, .int 0)] [] h5 Q := fun e h5 he F f => t_X12_readsAll_35 (by omega) ⟨fun _ => t_X12_readsAll_66 (by omega) ⟨fun _ => ⟨F.kd M.1, ng e h5 he F f⟩, fun z => absurd rfl z⟩, fun z => absurd rfl z⟩
  have go : ∀ f s h5, s.2.2.1.length + f = 12 → TsP B n wish s → LdT G h5 y B n t s → FrI (TxF y t) h h5 → txF B n k wish 13 (TS0 B n) = txF B n k wish (f + 1) s → Cal G (d - 1) mX12_clauseHere [.ref y] h5 (fun r8 h9 => ∃ v11, r8 = some (.int v11) ∧ Ex G d mX12_readsAll 35 [(0, .ref y), (1, .int v11)] [] h9 Q) := by
    intro f
    induction f with
    | zero =>
      intro s h5 hc LP L5 F5 el
      exact r_clauseT (k := k) (by omega) hk hw LP L5 ⟨fun e he h6 F6 f6 => ⟨_, rfl, ng66 e h6 (el.trans (txF_1 he)) (F5.tr F6) f6⟩, fun u hu => absurd (claR_inr hk LP hu).2.1 (by omega)⟩
    | succ f ih =>
      intro s h5 hc LP L5 F5 el
      refine r_clauseT (k := k) (by omega) hk hw LP L5 ⟨fun e he h6 F6 f6 => ⟨_, rfl, ng66 e h6 (el.trans (txF_1 he)) (F5.tr F6) f6⟩, fun u hu h6 F6 L6 => ⟨_, rfl, ?_⟩⟩
      obtain ⟨TP, -, -, ul⟩ := claR_inr hk LP hu
      have tn : u.1 ≤ n := TP.1.1
      refine t_X12_readsAll_35 (by omega) ⟨fun z => absurd z (by decide), fun _ => ⟨L6.1.1.1.1, r_see L6.1.1 (fun h7 F7 E7 => ⟨_, rfl, fun nz => ?_, fun z => ?_⟩)⟩⟩
      · have ns : ¬ (kdT B n u.1 = 3 ∧ vlT B n u.1 = 59) := fun q => nz ((seeV_is (c := 59) (fun hp => E7.2.1.2.2.2 _ hp) (by omega)).mpr (of_sg q.1 q.2 (by decide) (by decide)))
        have F57 := (F5.tr F6).tr (F7.weak (fun a k z => f13_tx z))
        have L7 : LdT G h7 y B n t u := L6.fr F7 E7.x
        refine t_X12_readsAll_66 (by omega) ⟨fun z => absurd z (by decide), fun _ => ⟨E7.1.1, r_see E7.x (fun h8 F8 E8 => ⟨_, rfl, fun z => ⟨fun q => ?_, fun q => ?_⟩, fun z => ?_⟩)⟩⟩
        · exact absurd ((F8.i (by unfold F13; omega)).trans L7.1.2.1.1) q
        · have nn := (seeV_end (fun hp => E8.2.1.2.2.2 _ hp)).mp z
          exact h1 u (el.trans (txF_2 hu (kd0_iff.mpr (by omega)))) h8 (F57.tr (F8.weak (fun a k z => f13_tx z))) (L7.fr F8 E8.x)
        · have z0 : ¬ kdT B n u.1 = 0 := fun q => z ((seeV_end (fun hp => E8.2.1.2.2.2 _ hp)).mpr (by have := kd0_iff.mp q; omega))
          rw [E8.2.2.1]
          exact r_fails E8.1 ((F8.i (by unfold F13; omega)).trans L7.1.2.1.1) (k := 0) rfl ⟨_, rfl, ng _ _ (el.trans (txF_4 hu z0 ns)) ((F57.tr (F8.weak (fun a k z => f13_tx z))).tr (FrI.sI (P := TxF y t) h8 _ (Or.inl ⟨rfl, by omega⟩))) (hI_eq _ _ _ _)⟩
      · obtain ⟨tp, tb⟩ := (seeV_is (c := 59) (fun hp => E7.2.1.2.2.2 _ hp) (by omega)).mp z
        obtain ⟨s1, s2, s3⟩ := sg_of tp tb (by decide) (by decide) (by decide) (by decide)
        have X8 := E7.pass tp s3
        have F8 : FrI (F13 y) h6 (sI h7 y 13 (hI h7 y 13 + 1)) := F7.tr (FrI.sI (P := F13 y) h7 _ ⟨rfl, rfl⟩)
        exact ih (nxP B n u.1, u.2) _ (by show u.2.2.1.length + f = 12; omega) (TP.nx tn) (L6.fr F8 X8) ((F5.tr F6).tr (F8.weak (fun a k z => f13_tx z))) (el.trans (txF_3 hu ⟨s1, s2⟩))
  exact go 12 _ h2 rfl (ts0_p B n wish) L2 FL rfl
end TM
