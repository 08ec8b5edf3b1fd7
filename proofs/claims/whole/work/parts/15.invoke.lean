/-! ===== rules: calls ===== -/
/-- what the tables say of a method that is called: an instance method of the kind κ with n parameters -/
def MV (M : MM) (κ n : Nat) : Prop := Cond.code M.1 M.2.1 M.2.2.1 M.2.2.2 ∈ tb ∧ Cond.instanceMethod M.1 ∈ tb ∧ Cond.selects M.1.cls M.1 M.1 ∈ tb ∧ M.1.cls = kC κ ∧ κ < 13 ∧ (M.1.cls ≠ "java/lang/invoke/MethodHandle" ∧ M.1.cls ≠ "java/lang/invoke/VarHandle" ∧ (parseMethodDescriptor M.1.desc).map (fun d => d.parameters.length) = some n) ∧ M.2.2.1 ≤ 45
/-- a static one -/
def MS (M : MM) (n : Nat) : Prop := Cond.code M.1 M.2.1 M.2.2.1 M.2.2.2 ∈ tb ∧ Cond.static M.1 ∈ tb ∧ Cond.initialized M.1.cls ∈ tb ∧ (M.1.cls ≠ "java/lang/invoke/MethodHandle" ∧ M.1.cls ≠ "java/lang/invoke/VarHandle" ∧ (parseMethodDescriptor M.1.desc).map (fun d => d.parameters.length) = some n) ∧ M.2.2.1 ≤ 45
/-- a constructor -/
def MI (M : MM) (n : Nat) : Prop := Cond.code M.1 M.2.1 M.2.2.1 M.2.2.2 ∈ tb ∧ Cond.instanceMethod M.1 ∈ tb ∧ Cond.initialized M.1.cls ∈ tb ∧ (M.1.cls ≠ "java/lang/invoke/MethodHandle" ∧ M.1.cls ≠ "java/lang/invoke/VarHandle" ∧ (parseMethodDescriptor M.1.desc).map (fun d => d.parameters.length) = some n) ∧ M.2.2.1 ≤ 45 ∧ M.1.name = "<init>" ∧ M.2.2.2 = none
theorem good_cons {w : Cond} (hw : w ∈ tb) : GoodIn tb (w :: tb) := fun x hx => by
  rcases List.mem_cons.mp hx with rfl | hx
  · exact tb_in _ hw
  · exact tb_in _ hx
theorem pcx_blind {G : GG} {h : HP} {as : List Value} {dC : Nat → ClassId} {dI : Nat → Nat → Nat} {dA : Nat → ClassId} : FrameBlind (PCx G h as dC dI dA) := by
  intro a U g mk q
  obtain ⟨q1, q2, q3, q4⟩ := q
  exact ⟨q1, KX.warm (s := U) (U := U.calling g mk a) (State.WarmedH.refl U) q2, SX.warm (s := U) (U := U.calling g mk a) (State.WarmedH.refl U) (Nat.le_refl _) (fun _ _ _ => rfl) q3, q4⟩
section XV
variable {G : GG} {d : Nat} {M M' : MM} {pc pc2 : Nat} {lv : List (Nat × Value)} {st st0 rest : List Value} {h : HP} {Q : Option Value → HP → Prop}
theorem pcx_pre {G : GG} {h : HP} {as : List Value} {dC : Nat → ClassId} {dI : Nat → Nat → Nat} {dA : Nat → ClassId} {s : State} {H : Heap} {locs : List Loc} (hKX : KX dC dI dA s) (hSX : SX G s) (hC : CU G dC dI dA s h H locs) : ∀ U : State, U.heap = H → s.WarmedH U.vm → PCx G h as dC dI dA as.toArray U := by
  intro U hU hW
  refine ⟨rfl, hKX.warm hW, hSX.warm hW (by rw [hU]; exact hC.2.2.1) (fun q h1 h2 => by rw [hU]; exact hC.2.2.2.1 q h1 h2), by rw [hU]; exact hC.1, fun a h1 h2 => by rw [hU]; exact hC.2.1 a h1 h2⟩
theorem ex_call {as : List Value} (hcal : Cal G (d - 1) M' as h (fun r h' => Ex G d M (pc + 3) lv (r.toList ++ rest) h' Q))
    (hrun : ∀ (p : Program) (l : Launch) (e : Env) (R : Room) (s : State) (m : MethodId) (args : Array Value) (below : List Frame) (meth : Method) (c : Code) (dC : Nat → ClassId) (dI : Nat → Nat → Nat) (dA : Nat → ClassId) (cells slots mc ms : Nat) (H : Heap) (locs : List Loc) (ls : Array Slot) (r : Option Value) (h1 : HP),
      AX G M p s m args meth c dC dI dA → d ≤ R.frames → 64 * d ≤ R.locals → CU G dC dI dA s h H locs → lv_has ls M.2.2.1 lv → cells + mc ≤ R.cells → slots + ms ≤ R.slots →
      Met l M'.1 (Cond.code M'.1 M'.2.1 M'.2.2.1 M'.2.2.2 :: tb) (rmD (d - 1) mc ms) (PCx G h as dC dI dA) (QCx G h1 r dC dI dA) mc ms (fun q => G.1 ≤ q) →
      va_Run p l e R s m args below meth c H locs cells slots mc ms (F0 m pc ls st0) rest (QCx G h1 r dC dI dA as.toArray) (fun q => G.1 ≤ q)) : Ex G d M pc lv st0 h Q := by
  obtain ⟨r, h1, ⟨r2, h2, q1, qk, q4⟩, zk, hM⟩ := hcal
  have z1 := zk.1
  have z2 := zk.2.1
  have q2 := qk.1
  have q3 := qk.2.1
  refine ⟨r2, h2, q1, zk.tr qk, ?_⟩
  intro p l e R s m args below meth c dC dI dA QF z u hA hd1 hd2 hz hu hc hs hr H locs ls hC hl
  have run := hrun p l e R s m args below meth c dC dI dA (hZ h - z) (hU h - u) (hZ h1 - hZ h) (hU h1 - hU h) H locs ls r h1 hA hd1 hd2 hC hl (by omega) (by omega) (hM l dC dI dA)
  intro T hT X
  obtain ⟨v, st₀, t, T', L, e0, X', hL, e1, e2, ⟨hv, hz1, hat, hF⟩, st⟩ := run T hT X
  cases hv
  have hsz : st₀.heap.size = hZ h := by rw [e0]; exact hC.1
  have hC1 : CU G dC dI dA s h1 T'.heap (locs ++ L) := by
    refine ⟨by rw [e1]; exact hz1, fun a g1 g2 => by rw [e1]; exact hat a g1 g2, ?_⟩
    have hS := hC.2.2
    have hz0 := hC.1
    obtain ⟨f1, f2⟩ := hF
    rw [e0] at f1 f2
    refine ⟨by rw [e1]; exact Nat.le_trans hS.1 f1, fun q g1 g2 => ?_, fun q hq => ?_⟩
    · rw [e1, f2 q (Nat.lt_of_lt_of_le g1 hS.1) g2]
      exact hS.2.1 q g1 g2
    · rcases List.mem_append.mp hq with g | g
      · exact hS.2.2 q g
      · exact hL q g
  have w := q4 p l e R s m args below meth c dC dI dA QF z u hA hd1 hd2 (by omega) (by omega) hc hs hr T'.heap (locs ++ L) ls hC1 hl
  obtain ⟨t2, a1, b1⟩ := W.cs (cells := hZ h - z + (hZ h1 - hZ h)) (slots := hU h - u + (hU h1 - hU h)) (by omega) (by omega) w T' rfl X'
  exact ⟨t2, st t2 a1, b1⟩
theorem x_callV {κ n i b : Nat} {As : List Value} (hm : MV M' κ n) (hw : Cond.methodLink M.1.cls i M'.1 ∈ tb) (hb : Kd G h b κ) (hn : As.length = n) (hst : st0 = As.reverse ++ .ref b :: rest) (hcat : (rest.map fun v => v.category).sum ≤ 8) (hd1 : 1 ≤ d) (hd : decode M.2.1 pc = .ok (.invokevirtual i, 3)) (hp : pc + 3 = pc2)
    (k : Cal G (d - 1) M' (.ref b :: As) h (fun r h' => Ex G d M pc2 lv (r.toList ++ rest) h' Q)) : Ex G d M pc lv st0 h Q := by
  subst hp
  refine ex_call k ?_
  intro p l e R s m args below meth c dC dI dA cells slots mc ms H locs ls r h1 hA hR1 hR2 hC hl hf1 hf2 hM
  obtain ⟨m1, m2, m3, m4, m5, m6, m7⟩ := hm
  obtain ⟨hx, hbd, hml, -, hown, hts, -, -, hKX, hSX⟩ := id hA
  have hcell : ∃ cellB : Cell, H[b]? = some cellB ∧ cellB.vm.isStatics = false ∧ s.vm.findClass M'.1.cls = some cellB.cls := by
    obtain ⟨cell, q1, q2, q3, -⟩ := cu_obj hC hb m5
    exact ⟨cell, q1, by rw [q3]; rfl, by rw [q2, m4]; exact (hKX.1 κ m5).2.1⟩
  exact va_runV (Ts := tb) (own := M.1.cls) (C := M'.1.cls) (As := As) ⟨hx, hbd, hml, hown, hts⟩ hM ⟨callB_of n hts (good_cons m1) rfl rfl rfl (hts _ (by rw [m4]; exact (k_ini κ m5).2)) (hts _ hw) m6 ⟨by show d - 1 + 1 ≤ _; omega, by show 8 + (M'.2.2.1 + 11) + 64 * (d - 1) ≤ _; omega⟩, hts _ m2, hts _ m3⟩ ⟨pcx_blind, hcell, pcx_pre hKX hSX hC⟩ rfl hn hl.1 hst (lv_room hcat) hd ⟨hf1, hf2⟩
theorem x_callS {n i : Nat} {As : List Value} (hm : MS M' n) (hw : Cond.methodLink M.1.cls i M'.1 ∈ tb) (hn : As.length = n) (hst : st0 = As.reverse ++ rest) (hcat : (rest.map fun v => v.category).sum ≤ 8) (hd1 : 1 ≤ d) (hd : decode M.2.1 pc = .ok (.invokestatic i, 3)) (hp : pc + 3 = pc2)
    (k : Cal G (d - 1) M' As h (fun r h' => Ex G d M pc2 lv (r.toList ++ rest) h' Q)) : Ex G d M pc lv st0 h Q := by
  subst hp
  refine ex_call k ?_
  intro p l e R s m args below meth c dC dI dA cells slots mc ms H locs ls r h1 hA hR1 hR2 hC hl hf1 hf2 hM
  obtain ⟨m1, m2, m3, m4, m5⟩ := hm
  obtain ⟨hx, hbd, hml, -, hown, hts, -, -, hKX, hSX⟩ := id hA
  exact va_runS (Ts := tb) (own := M.1.cls) (As := As) ⟨hx, hbd, hml, hown, hts⟩ hM ⟨callB_of n hts (good_cons m1) rfl rfl rfl (hts _ m3) (hts _ hw) m4 ⟨by show d - 1 + 1 ≤ _; omega, by show 8 + (M'.2.2.1 + 11) + 64 * (d - 1) ≤ _; omega⟩, hts _ m2⟩ ⟨pcx_blind, pcx_pre hKX hSX hC⟩ rfl hn hl.1 hst (lv_room hcat) hd ⟨hf1, hf2⟩
theorem x_callSN {n i : Nat} {host : String} {As : List Value} (hm : MS M' n) (hw : Cond.methodLinkNest M.1.cls i M'.1 host ∈ nestW) (hn : As.length = n) (hst : st0 = As.reverse ++ rest) (hcat : (rest.map fun v => v.category).sum ≤ 8) (hd1 : 1 ≤ d) (hd : decode M.2.1 pc = .ok (.invokestatic i, 3)) (hp : pc + 3 = pc2)
    (k : Cal G (d - 1) M' As h (fun r h' => Ex G d M pc2 lv (r.toList ++ rest) h' Q)) : Ex G d M pc lv st0 h Q := by
  subst hp
  refine ex_call k ?_
  intro p l e R s m args below meth c dC dI dA cells slots mc ms H locs ls r h1 hA hR1 hR2 hC hl hf1 hf2 hM
  obtain ⟨m1, m2, m3, m4, m5⟩ := hm
  obtain ⟨hx, hbd, hml, -, hown, hts, -, -, hKX, hSX⟩ := id hA
  exact va_runSN (Ts := tb) (own := M.1.cls) (host := host) (As := As) ⟨hx, hbd, hml, hown, hts⟩ hM ⟨va_cnB n hts (good_cons m1) rfl rfl rfl (hKX.2.2.1 _ hw) (hts _ m3) m4 ⟨by show d - 1 + 1 ≤ _; omega, by show 8 + (M'.2.2.1 + 11) + 64 * (d - 1) ≤ _; omega⟩, hts _ m2, trivial⟩ ⟨pcx_blind, pcx_pre hKX hSX hC⟩ rfl hn hl.1 hst (lv_room hcat) hd ⟨hf1, hf2⟩
theorem x_callI {n i b : Nat} {As : List Value} (hm : MI M' n) (hw : Cond.methodLink M.1.cls i M'.1 ∈ tb) (hn : As.length = n) (hst : st0 = As.reverse ++ .ref b :: rest) (hcat : (rest.map fun v => v.category).sum ≤ 8) (hd1 : 1 ≤ d) (hd : decode M.2.1 pc = .ok (.invokespecial i, 3)) (hp : pc + 3 = pc2)
    (k : Cal G (d - 1) M' (.ref b :: As) h (fun r h' => Ex G d M pc2 lv (r.toList ++ rest) h' Q)) : Ex G d M pc lv st0 h Q := by
  subst hp
  refine ex_call k ?_
  intro p l e R s m args below meth c dC dI dA cells slots mc ms H locs ls r h1 hA hR1 hR2 hC hl hf1 hf2 hM
  obtain ⟨m1, m2, m3, m4, m5, m6, m7⟩ := hm
  rw [m7] at hM m1
  obtain ⟨hx, hbd, hml, -, hown, hts, -, -, hKX, hSX⟩ := id hA
  exact va_runI (Ts := tb) (own := M.1.cls) (As := As) ⟨hx, hbd, hml, hown, hts⟩ hM ⟨callB_of n hts (good_cons m1) rfl rfl rfl (hts _ m3) (hts _ hw) m4 ⟨by show d - 1 + 1 ≤ _; omega, by show 8 + (M'.2.2.1 + 11) + 64 * (d - 1) ≤ _; omega⟩, m6, hts _ m2⟩ ⟨pcx_blind, pcx_pre hKX hSX hC⟩ rfl hn hl.1 hst (lv_room hcat) hd ⟨hf1, hf2⟩
theorem x_callIN {n i b : Nat} {host : String} {As : List Value} (hm : MI M' n) (hw : Cond.methodLinkNest M.1.cls i M'.1 host ∈ nestW) (hn : As.length = n) (hst : st0 = As.reverse ++ .ref b :: rest) (hcat : (rest.map fun v => v.category).sum ≤ 8) (hd1 : 1 ≤ d) (hd : decode M.2.1 pc = .ok (.invokespecial i, 3)) (hp : pc + 3 = pc2)
    (k : Cal G (d - 1) M' (.ref b :: As) h (fun r h' => Ex G d M pc2 lv (r.toList ++ rest) h' Q)) : Ex G d M pc lv st0 h Q := by
  subst hp
  refine ex_call k ?_
  intro p l e R s m args below meth c dC dI dA cells slots mc ms H locs ls r h1 hA hR1 hR2 hC hl hf1 hf2 hM
  obtain ⟨m1, m2, m3, m4, m5, m6, m7⟩ := hm
  rw [m7] at hM m1
  obtain ⟨hx, hbd, hml, -, hown, hts, -, -, hKX, hSX⟩ := id hA
  exact va_runIN (Ts := tb) (own := M.1.cls) (host := host) (As := As) ⟨hx, hbd, hml, hown, hts⟩ hM ⟨va_cnB n hts (good_cons m1) rfl rfl rfl (hKX.2.2.1 _ hw) (hts _ m3) m4 ⟨by show d - 1 + 1 ≤ _; omega, by show 8 + (M'.2.2.1 + 11) + 64 * (d - 1) ≤ _; omega⟩, m6, hts _ m2⟩ ⟨pcx_blind, pcx_pre hKX hSX hC⟩ rfl hn hl.1 hst (lv_room hcat) hd ⟨hf1, hf2⟩
theorem tb_oi : Cond.instanceMethod Lib.objectInit ∈ tb ∧ Cond.code Lib.objectInit ⟨#[0xb1]⟩ 1 none ∈ tb := by
  have key : (Cond.instanceMethod Lib.objectInit ∈ tables_1 ∧ goodWord (Cond.instanceMethod Lib.objectInit) = true) ∧ (Cond.code Lib.objectInit ⟨#[0xb1]⟩ 1 none ∈ tables_1 ∧ goodWord (Cond.code Lib.objectInit ⟨#[0xb1]⟩ 1 none) = true) := by decide +kernel
  exact ⟨tb_t key.1.1 key.1.2, tb_t key.2.1 key.2.2⟩
theorem x_objInit {i a : Nat} (hw : Cond.methodLink M.1.cls i Lib.objectInit ∈ tb) (hd1 : 1 ≤ d) (hcat : (st.map fun v => v.category).sum ≤ 8) (hd : decode M.2.1 pc = .ok (.invokespecial i, 3)) (hp : pc + 3 = pc2) (kx : Ex G d M pc2 lv st h Q) : Ex G d M pc lv (.ref a :: st) h Q := by
  subst hp
  obtain ⟨r, h2, q1, q2, q4⟩ := kx
  refine ⟨r, h2, q1, q2, ?_⟩
  intro p l e R s m args below meth c dC dI dA QF z u hA hd1' hd2 hz hu hc hs hr H locs ls hC hl
  have kk := q4 p l e R s m args below meth c dC dI dA QF z u hA hd1' hd2 hz hu hc hs hr H locs ls hC hl
  obtain ⟨hx, hb, hml, -, hown, hts, -, -, hKX, -⟩ := id hA
  have hrm : 2 * (F0 m pc ls (.ref a :: st)).monitorRoom + (st.map fun v => v.category).sum ≤ 8 := lv_room hcat
  exact W.objInit hx hb hown (hts _ hw) (hts _ tb_oi.1) (hts _ tb_oi.2) rfl (hl.1.trans hml.symm) rfl hd (by omega) (by omega) kk
end XV
