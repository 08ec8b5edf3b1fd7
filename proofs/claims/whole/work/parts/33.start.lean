/-! ===== from the law's walk to the claim: the start ===== -/
section ST
theorem tabs_lw {w : Cond} (i : Nat) (hw : tables_1[i]? = some w) : w ∈ lw_tbl := List.mem_append_right _ (List.mem_of_getElem? hw)
theorem start_KX {s : State} {args : Array Value} (hts : ∀ w ∈ lw_tbl, w.before args s = true) : ∃ dC dI dA, KX dC dI dA s := by
  have htb : ∀ w ∈ tb, w.before args s = true := fun w hw => hts w (tb_lw w hw)
  have h1 : ∀ κ : Nat, ∃ q : ClassId × (Nat → Nat), κ < 13 → u_Kn s (kC κ) (kT κ) (kN κ) q.1 q.2 := by
    intro κ
    by_cases hκ : κ < 13
    · obtain ⟨cC, iS, hq⟩ := u_known htb (k_in κ hκ) (htb _ (k_ini κ hκ).1)
      exact ⟨(cC, iS), fun _ => hq⟩
    · exact ⟨(0, fun _ => 0), fun q => absurd q hκ⟩
  obtain ⟨f, hf⟩ := Classical.axiomOfChoice h1
  have prim : ∀ ty : FieldType, Cond.arrayClass ty ∈ tb → (∀ C, ty ≠ .object C) → ∃ cA : ClassId, ArrOfT s cA ty ∧ va_RA s cA ty := by
    intro ty hw hno
    obtain ⟨cA, kA, comp, g1, g2, g3⟩ := Cond.arrayClass_spec (htb _ hw)
    refine ⟨cA, fun n z => ⟨fun k q => (by cases q), kA, g2, comp, g3⟩, ?_⟩
    cases ty <;> first | exact absurd rfl (hno _) | exact g1
  have over : ∀ C : String, Cond.arrayOver (.object C) ∈ lw_tbl → ∃ cA : ClassId, ArrOfT s cA (.object C) ∧ va_RA s cA (.object C) := by
    intro C hw
    obtain ⟨comp, cA, kA, g1, -, g3, g4, g5⟩ := Cond.arrayOver_spec (hts _ hw)
    exact ⟨cA, fun n z => ⟨fun k q => (by cases q), kA, g3, comp, g4⟩, kA, comp, g3, g4, g1, g5⟩
  have oE : Cond.arrayOver (.object "RoundAnothers$Errand") ∈ lw_tbl := tabs_lw 334 (by decide +kernel)
  have oS : Cond.arrayOver (.object "RoundAnothers$Script") ∈ lw_tbl := tabs_lw 138 (by decide +kernel)
  have oT : Cond.arrayOver (.object "RoundAnothers$State") ∈ lw_tbl := tabs_lw 140 (by decide +kernel)
  have oH : Cond.arrayOver (.object "RoundAnothers$Thing") ∈ lw_tbl := tabs_lw 332 (by decide +kernel)
  have h2 : ∀ κ : Nat, ∃ cA : ClassId, 13 ≤ κ → κ < 21 → ArrOfT s cA (aTy κ) ∧ va_RA s cA (aTy κ) := by
    intro κ
    by_cases hκ : 13 ≤ κ ∧ κ < 21
    · have key : ∃ cA : ClassId, ArrOfT s cA (aTy κ) ∧ va_RA s cA (aTy κ) := by
        obtain ⟨a1, a2⟩ := hκ
        rcases (show κ = 13 ∨ κ = 14 ∨ κ = 15 ∨ κ = 16 ∨ κ = 17 ∨ κ = 18 ∨ κ = 19 ∨ κ = 20 by omega) with rfl | rfl | rfl | rfl | rfl | rfl | rfl | rfl
        · exact prim .byte ac_byte (fun C q => by cases q)
        · exact prim .int ac_int (fun C q => by cases q)
        · exact prim .long ac_long (fun C q => by cases q)
        · exact prim .boolean ac_boolean (fun C q => by cases q)
        · exact over _ oE
        · exact over _ oS
        · exact over _ oT
        · exact over _ oH
      obtain ⟨cA, hq⟩ := key
      exact ⟨cA, fun _ _ => hq⟩
    · exact ⟨0, fun a b => absurd ⟨a, b⟩ hκ⟩
  obtain ⟨g, hg⟩ := Classical.axiomOfChoice h2
  refine ⟨fun κ => (f κ).1, fun κ => (f κ).2, g, hf, hg, fun w hw => ?_, fun C hC => ?_⟩
  · obtain ⟨w1, w2⟩ := List.mem_filter.mp hw
    have h3 := hts w (List.mem_append_right _ w1)
    cases w <;> first | (simp at w2; done) | exact va_Nw.of rfl h3
  · simp only [aoC, List.mem_cons, List.not_mem_nil, or_false] at hC
    rcases hC with rfl | rfl | rfl | rfl
    · exact va_AO.of (hts _ oE)
    · exact va_AO.of (hts _ oS)
    · exact va_AO.of (hts _ oT)
    · exact va_AO.of (hts _ oH)
theorem start_SX {s : State} {b L : Nat} {xs : Nat → Int32} (hts : ∀ w ∈ lw_tbl, w.before #[Value.ref b] s = true) (hX : va_X b L xs s s.heap) (hbl : b < s.heap.size) (hgv : (Jvm.Cond.and given_1 narrow_1).before #[Value.ref b] s = true) :
    ∃ E : Nat → Nat, E 3 = b ∧ SX (s.heap.size, E, L, xs) s := by
  have htb : ∀ w ∈ tb, w.before #[Value.ref b] s = true := fun w hw => hts w (tb_lw w hw)
  have hs := flat_of_before _ hgv
  have hA : ∀ a : Nat, a < s.heap.size → ¬ (fun q => s.heap.size ≤ q) a := fun a ha => Nat.not_le.mpr ha
  obtain ⟨t0, ht0, hT0⟩ := va_Tof (args := #[Value.ref b]) (s := s) (tm := .static "RoundAnothers$Ways" "BESIDE" "[I") (ty := .int) (N := 4) (f := fun j => .int (bsd j)) (A := fun q => s.heap.size ≤ q) (by decide) (hs _ (by decide +kernel)) (va_eqt (hs _ (by decide +kernel)))
    (fun j hj => by
      rcases (show j = 0 ∨ j = 1 ∨ j = 2 ∨ j = 3 by omega) with rfl | rfl | rfl | rfl
      · exact va_eqt (z := -40) (hs _ (by decide +kernel))
      · exact va_eqt (z := 1) (hs _ (by decide +kernel))
      · exact va_eqt (z := 40) (hs _ (by decide +kernel))
      · exact va_eqt (z := -1) (hs _ (by decide +kernel))) hA
  have hZ0 : va_Z "RoundAnothers$Ways" "BESIDE" "[I" (.ref t0) (fun q => s.heap.size ≤ q) s s.heap := va_Zof (hts _ (tabs_lw 1190 (by decide +kernel))) (htb _ (tb_c1 6 rfl rfl)) ht0 hA
  have hZ1 : va_Z "java/lang/String" "COMPACT_STRINGS" "Z" (.int 1) (fun q => s.heap.size ≤ q) s s.heap := va_Zof (hts _ (tabs_lw 613 (by decide +kernel))) (htb _ tb_strI) (va_eqt (hs _ (by decide +kernel))) hA
  have hZ2 : va_Zq "jdk/internal/util/Preconditions" "SIOOBE_FORMATTER" "Ljava/util/function/BiFunction;" (fun q => s.heap.size ≤ q) s s.heap := va_Zqof (hts _ (tabs_lw 629 (by decide +kernel))) (htb _ (tb_c1 16 rfl rfl)) (hs _ (by decide +kernel)) hA
  have hel : ∀ j, j < 114 → Cond.eq (.elem (.field (.string "RoundAnothers$Tape" 64) "java/lang/String" "value" "[B") (.int (Int32.ofNat j))) (.int (wdBy.getD j 0)) ∈ flatC (Jvm.Cond.and given_1 narrow_1) := by decide +kernel
  obtain ⟨adK, adV, hS, hev⟩ := vk_Sof (args := #[Value.ref b]) (s := s) (N := 1) (tm := fun _ => .string "RoundAnothers$Tape" 64) (len := [114]) (byt := [wdBy]) (A := fun q => s.heap.size ≤ q)
    (fun i hi => by obtain rfl : i = 0 := by omega
                    decide) (fun i hi => hs _ (by decide +kernel)) (fun i hi => hs _ (by decide +kernel)) (fun i hi => hs _ (by decide +kernel))
    (fun i hi => by obtain rfl : i = 0 := by omega
                    exact hs _ (by decide +kernel))
    (fun i hi j hj => by obtain rfl : i = 0 := by omega
                         have q := hs _ (hel j (by simpa using hj))
                         simp only [List.getD_cons_zero]
                         exact q) (fun i j hi hj hij => absurd (show i = j by omega) hij) hA
  have hSt : (Cond.stringRef "RoundAnothers$Tape" 64 wdTx).before #[Value.ref b] s = true := hts _ (tabs_lw 603 (by decide +kernel))
  have hR : vk_R "RoundAnothers$Tape" 64 wdTx (adK 0) s := vk_R.of (A := #[Value.ref b]) hSt (hev 0 (by decide))
  refine ⟨fun k => match k with | 0 => t0 | 1 => adK 0 | 2 => adV 0 | _ => b, rfl, hT0, hZ0, ⟨hX, hbl⟩, hR, ?_, hZ1, hZ2, Nat.le_refl _⟩
  refine ⟨fun i hi => ?_, fun i j hi hj _ => by omega⟩
  obtain rfl : i = 0 := by omega
  exact hS.1 0 (by decide)
end ST
