/-! ===== a text, as it is read: what clauses may be ===== -/
def tmT (B : Nat → Int32) (n : Nat) (s : TSt) : Prop := 12 ≤ s.2.2.1.length ∨ (vlT B n s.1 = 15 ∧ s.2.2.2 ≠ none)
section TI
variable {B : Nat → Int32} {n k : Nat} {wish : Bool} {s : TSt}
theorem cr_b0 (h : ¬ kwT B n wish s.1) : claR B n k wish s = .inl (1 + 8 * s.1 + 0) := @if_neg _ (Classical.propDecidable _) h _ _ _
theorem cr_b4 (h : kwT B n wish s.1) (h2 : tmT B n s) : claR B n k wish s = .inl (1 + 8 * s.1 + 4) := (@if_pos _ (Classical.propDecidable _) h _ _ _).trans (if_pos h2)
theorem cr_15 (h : kwT B n wish s.1) (h2 : ¬ tmT B n s) (v : vlT B n s.1 = 15) : claR B n k wish s = sbind (numR B n (nxP B n s.1) 0 1) (fun a => .inr (a.2, s.2.1, s.2.2.1 ++ [(15, [], none)], some a.1)) := (@if_pos _ (Classical.propDecidable _) h _ _ _).trans ((if_neg h2).trans (if_pos v))
theorem cr_t (h : kwT B n wish s.1) (h2 : ¬ tmT B n s) (v : vlT B n s.1 = 13 ∨ vlT B n s.1 = 14) : claR B n k wish s = sbind (tsR B n k (nxP B n s.1) s.2.1) (fun r => .inr (r.1, r.2.1, s.2.2.1 ++ [((vlT B n s.1).toInt.toNat, [], some r.2.2)], s.2.2.2)) := (@if_pos _ (Classical.propDecidable _) h _ _ _).trans ((if_neg h2).trans ((if_neg (fun q => by rw [q] at v; exact absurd v (by decide))).trans (if_pos v)))
theorem cr_s (h : kwT B n wish s.1) (h2 : ¬ tmT B n s) (v : vlT B n s.1 = 12 ∨ vlT B n s.1 = 16) : claR B n k wish s = sbind (suR B n k (nxP B n s.1) s.2.1) (fun a => if kdT B n a.1 = 1 ∧ vlT B n a.1 = 17 then sbind (tsR B n k (nxP B n a.1) a.2.1) (fun r => .inr (r.1, r.2.1, s.2.2.1 ++ [((vlT B n s.1).toInt.toNat, a.2.2, some r.2.2)], s.2.2.2)) else .inr (a.1, a.2.1, s.2.2.1 ++ [((vlT B n s.1).toInt.toNat, a.2.2, none)], s.2.2.2)) := (@if_pos _ (Classical.propDecidable _) h _ _ _).trans ((if_neg h2).trans ((if_neg (fun q => by rw [q] at v; exact absurd v (by decide))).trans (if_neg (fun q => by rcases v with v | v <;> rw [v] at q <;> exact absurd q (by decide)))))
theorem kwT.cs (h : kwT B n wish s.1) : vlT B n s.1 = 15 ∨ (vlT B n s.1 = 13 ∨ vlT B n s.1 = 14) ∨ (vlT B n s.1 = 12 ∨ vlT B n s.1 = 16) := by
  rcases h.2 with ⟨-, v⟩ | ⟨-, v | v | v | v⟩
  · exact Or.inr (Or.inr (Or.inr v))
  · exact Or.inr (Or.inr (Or.inl v))
  · exact Or.inr (Or.inl (Or.inl v))
  · exact Or.inr (Or.inl (Or.inr v))
  · exact Or.inl v
theorem kwT.wi (h : kwT B n wish s.1) {c : Nat} (v : vlT B n s.1 = nI c) (hc : c < 100) : (wish = false → c ≠ 16) ∧ (wish = true → c = 16) := by
  rcases h.2 with ⟨w, v2⟩ | ⟨w, v2⟩
  · have : c = 16 := (nI_eq_iff (b := 16) (by omega) (by omega)).mp (v.symm.trans v2)
    exact ⟨fun q => (by rw [w] at q; cases q), fun _ => this⟩
  · refine ⟨fun _ q => ?_, fun q => by rw [w] at q; cases q⟩
    rw [v, q] at v2
    exact absurd v2 (by decide)
theorem claR_inr {t : TSt} (hk : n < k) (S : TsP B n wish s) (h : claR B n k wish s = .inr t) : TsP B n wish t ∧ s.2.2.1.length < 12 ∧ s.1 < t.1 ∧ t.2.2.1.length = s.2.2.1.length + 1 := by
  have s1 : s.1 ≤ n := S.1.1
  have S' := S
  obtain ⟨-, s2, s3, s4, s5, s6⟩ := S'
  have len1 : ∀ q : Cla, (s.2.2.1 ++ [q]).length = s.2.2.1.length + 1 := fun q => by rw [List.length_append]; rfl
  by_cases kw : kwT B n wish s.1
  · have lt := kd_lt kw.1 (by omega)
    have gt := nxP_gt (B := B) lt
    have n1 := (at_nx (B := B) s1).1
    by_cases tm : tmT B n s
    · rw [cr_b4 kw tm] at h
      cases h
    · have l12 : s.2.2.1.length < 12 := by
        have : ¬ 12 ≤ s.2.2.1.length := fun q => tm (Or.inl q)
        omega
      rcases kw.cs with v | v | v
      · rw [cr_15 kw tm v] at h
        obtain ⟨a, e1, h⟩ := sbind_inr h
        have i1 := numR_inr n1 (v := a.1) (q := a.2) e1
        have e1' := e1
        have gt2 : nxP B n s.1 ≤ a.2 := by
          by_cases ok : okN B n (nxP B n s.1) 0 1
          · rw [(numR_ok ok).1] at e1'
            rw [← Sum.inr.inj e1']
            exact Nat.le_of_lt (nxP_gt (kd_lt ok.1 (by omega)))
          · rw [numR_bad ok] at e1'
            cases e1'
        obtain rfl := Sum.inr.inj h
        refine ⟨S.add i1.2.2 s2 l12 (by show s.1 + 0 ≤ a.2; omega) ⟨Or.inl ⟨rfl, rfl⟩, kw.wi (c := 15) v (by omega)⟩ (fun v hv => by have := Option.some.inj hv; omega), l12, by show s.1 < a.2; omega, len1 _⟩
      · rw [cr_t kw tm v] at h
        obtain ⟨r, e1, h⟩ := sbind_inr h
        obtain ⟨ra, rm, rq⟩ := (tsR_ok (B := B) (n := n) n1 (by omega) s2).2 r e1
        obtain rfl := Sum.inr.inj h
        have mk : ∀ c : Nat, (c = 13 ∨ c = 14) → vlT B n s.1 = nI c → TsP B n wish (r.1, r.2.1, s.2.2.1 ++ [((vlT B n s.1).toInt.toNat, [], some r.2.2)], s.2.2.2) := fun c hc e => by
          have ec : (vlT B n s.1).toInt.toNat = c := by rw [e, ti_nI (by omega)]; rfl
          rw [ec]
          exact S.add ra.1 rm.2 l12 (by show s.1 + (0 + r.2.2.length) ≤ r.1; omega) ⟨Or.inr (Or.inl ⟨hc, r.2.2, rfl, rq, by omega⟩), kw.wi e (by omega)⟩ s6
        refine ⟨?_, l12, by show s.1 < r.1; omega, len1 _⟩
        rcases v with v | v
        · exact mk 13 (Or.inl rfl) v
        · exact mk 14 (Or.inr rfl) v
      · rw [cr_s kw tm v] at h
        obtain ⟨a, e1, h⟩ := sbind_inr h
        obtain ⟨aa, am, aq⟩ := (suR_ok (B := B) (n := n) n1 (by omega) s2).2 a e1
        have an := aa.1.1
        obtain ⟨c, hc, e⟩ : ∃ c, (c = 12 ∨ c = 16) ∧ vlT B n s.1 = nI c := by
          rcases v with v | v
          · exact ⟨12, Or.inl rfl, v⟩
          · exact ⟨16, Or.inr rfl, v⟩
        have ec : (vlT B n s.1).toInt.toNat = c := by rw [e, ti_nI (by omega)]; rfl
        rw [ec] at h
        by_cases c17 : kdT B n a.1 = 1 ∧ vlT B n a.1 = 17
        · rw [if_pos c17] at h
          obtain ⟨r, e2, h⟩ := sbind_inr h
          have gt2 := nxP_gt (B := B) (kd_lt c17.1 (by omega))
          obtain ⟨ra, rm, rq⟩ := (tsR_ok (B := B) (n := n) (at_nx an).1 (by omega) am.2).2 r e2
          obtain rfl := Sum.inr.inj h
          refine ⟨S.add ra.1 rm.2 l12 (by show s.1 + (a.2.2.length + r.2.2.length) ≤ r.1; omega) ⟨Or.inr (Or.inr ⟨hc, aq, ?_, fun l hl => ?_⟩), kw.wi e (by omega)⟩ s6, l12, by show s.1 < r.1; omega, len1 _⟩
          · show pushN a.2.2 ≤ 60
            omega
          · obtain rfl := Option.some.inj hl
            exact ⟨rq, by omega⟩
        · rw [if_neg c17] at h
          obtain rfl := Sum.inr.inj h
          refine ⟨S.add aa.1 am.2 l12 (by show s.1 + (a.2.2.length + 0) ≤ a.1; omega) ⟨Or.inr (Or.inr ⟨hc, aq, ?_, fun l hl => ?_⟩), kw.wi e (by omega)⟩ s6, l12, by show s.1 < a.1; omega, len1 _⟩
          · show pushN a.2.2 ≤ 60
            omega
          · cases hl
  · rw [cr_b0 kw] at h
    cases h
theorem claR_inl {e : Nat} (hk : n < k) (S : TsP B n wish s) (h : claR B n k wish s = .inl e) : 1 ≤ e ∧ e ≤ 1 + 8 * n + 5 := by
  have s1 : s.1 ≤ n := S.1.1
  have n1 := (at_nx (B := B) s1).1
  have s2 := S.2.1
  by_cases kw : kwT B n wish s.1
  · by_cases tm : tmT B n s
    · rw [cr_b4 kw tm] at h
      obtain rfl := Sum.inl.inj h
      omega
    · rcases kw.cs with v | v | v
      · rw [cr_15 kw tm v] at h
        rcases sbind_inl h with h | ⟨a, e1, h⟩
        · exact numR_inl n1 h
        · cases h
      · rw [cr_t kw tm v] at h
        rcases sbind_inl h with h | ⟨a, e1, h⟩
        · exact (tsR_ok (B := B) (n := n) n1 (by omega) s2).1 e h
        · cases h
      · rw [cr_s kw tm v] at h
        rcases sbind_inl h with h | ⟨a, e1, h⟩
        · exact (suR_ok (B := B) (n := n) n1 (by omega) s2).1 e h
        · obtain ⟨aa, am, aq⟩ := (suR_ok (B := B) (n := n) n1 (by omega) s2).2 a e1
          have an := aa.1.1
          by_cases c17 : kdT B n a.1 = 1 ∧ vlT B n a.1 = 17
          · rw [if_pos c17] at h
            rcases sbind_inl h with h | ⟨r, e2, h⟩
            · exact (tsR_ok (B := B) (n := n) (at_nx an).1 (by omega) am.2).1 e h
            · cases h
          · rw [if_neg c17] at h
            cases h
  · rw [cr_b0 kw] at h
    obtain rfl := Sum.inl.inj h
    omega
theorem txF_1 {f e : Nat} (h : claR B n k wish s = .inl e) : txF B n k wish (f + 1) s = .inl e := by
  show sbind (claR B n k wish s) _ = _
  rw [h]
  rfl
theorem txF_2 {f : Nat} {t : TSt} (h : claR B n k wish s = .inr t) (z : kdT B n t.1 = 0) : txF B n k wish (f + 1) s = .inr t := by
  show sbind (claR B n k wish s) _ = _
  rw [h]
  exact if_pos z
theorem txF_3 {f : Nat} {t : TSt} (h : claR B n k wish s = .inr t) (z : kdT B n t.1 = 3 ∧ vlT B n t.1 = 59) : txF B n k wish (f + 1) s = txF B n k wish f (nxP B n t.1, t.2) := by
  show sbind (claR B n k wish s) _ = _
  rw [h]
  exact (if_neg (by omega)).trans (if_pos z)
theorem txF_4 {f : Nat} {t : TSt} (h : claR B n k wish s = .inr t) (z : ¬ kdT B n t.1 = 0) (y : ¬ (kdT B n t.1 = 3 ∧ vlT B n t.1 = 59)) : txF B n k wish (f + 1) s = .inl (1 + 8 * t.1 + 0) := by
  show sbind (claR B n k wish s) _ = _
  rw [h]
  exact (if_neg z).trans (if_neg y)
theorem ts0_p (B : Nat → Int32) (n : Nat) (wish : Bool) : TsP B n wish (TS0 B n) := ⟨at_skp (Nat.zero_le _), Nat.zero_le _, Nat.zero_le _, Nat.zero_le _, fun q h => absurd h List.not_mem_nil, fun v h => by cases h⟩
theorem TsP.nx {t : TSt} (S : TsP B n wish t) (h : t.1 ≤ n) : TsP B n wish (nxP B n t.1, t.2) := by
  obtain ⟨a1, a2, a3, a4, a5, a6⟩ := S
  refine ⟨at_nx h, a2, a3, Nat.le_trans a4 ?_, a5, a6⟩
  show t.1 ≤ nxP B n t.1
  by_cases c : t.1 < n
  · exact Nat.le_of_lt (nxP_gt c)
  · rw [show t.1 = n by omega, nxP_end]
    exact Nat.le_refl _
end TI
