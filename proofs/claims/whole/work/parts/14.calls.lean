/-! ===== rules: new cells, returns, calls ===== -/
theorem k_nofl : ∀ κ, κ < 13 → ∀ k, k < kN κ → kTy κ k ≠ .float ∧ kTy κ k ≠ .double := by decide +kernel
theorem fv_nw {ty : FieldType} (h1 : ty ≠ .float) (h2 : ty ≠ .double) (h : HP) (κ n k : Nat) : defaultValue ty = fv (nw h κ n) (hZ h) k ty := by
  have e1 : hI (nw h κ n) (hZ h) k = 0 := by rw [hI_nw, if_pos rfl]
  have e2 : hL (nw h κ n) (hZ h) k = 0 := by rw [hL_nw, if_pos rfl]
  have e3 : hR (nw h κ n) (hZ h) k = none := by rw [hR_nw, if_pos rfl]
  cases ty <;> first | (exact absurd rfl h1) | (exact absurd rfl h2) | (unfold fv; simp only [e1, e2, e3]; rfl)
section XN
variable {G : GG} {d : Nat} {M : MM} {pc pc2 : Nat} {lv : List (Nat × Value)} {st : List Value} {h : HP} {Q : Option Value → HP → Prop}
variable {dC : Nat → ClassId} {dI : Nat → Nat → Nat} {dA : Nat → ClassId} {s : State} {H H1 : Heap} {locs : List Loc}
theorem cu_new {κ n : Nat} (hC : CU G dC dI dA s h H locs) (z1 : H1.size = hZ h + 1) (o1 : ∀ q, q < hZ h → H1[q]? = H[q]?) (ha : at1 dC dI dA (nw h κ n) (hZ h) H1) : CU G dC dI dA s (nw h κ n) H1 locs := by
  refine ⟨z1, fun b h1 h2 => ?_, ?_⟩
  · rw [hZ_nw] at h2
    by_cases hb : b = hZ h
    · rw [hb]; exact ha
    · exact (hC.2.1 b h1 (by omega)).kept (o1 b (by omega)) (fun k => by rw [hI_nw, if_neg hb]) (fun k => by rw [hL_nw, if_neg hb]) (fun k => by rw [hR_nw, if_neg hb]) (by rw [hK_nw, if_neg hb]) (by rw [hN_nw, if_neg hb])
  · have hS := hC.2.2
    have hz := hC.1
    exact ⟨by have := hS.1; omega, fun x h1 h2 => (o1 x (by have := hS.1; omega)).trans (hS.2.1 x h1 h2), hS.2.2⟩
theorem x_new {κ i : Nat} (hw : Cond.classLink M.1.cls i (kC κ) ∈ tb) (hκ : κ < 13) (hd : decode M.2.1 pc = .ok (.new i, 3)) (hp : pc + 3 = pc2) (kx : Ex G d M pc2 lv (.ref (hZ h) :: st) (nw h κ (kN κ)) Q) : Ex G d M pc lv st h Q := by
  subst hp
  obtain ⟨r, h2, q1, qk, q4⟩ := kx
  have q2 := qk.1
  have q3 := qk.2.1
  rw [hZ_nw] at q2
  rw [hU_nw] at q3
  refine ⟨r, h2, q1, (KP.nw h _ _).tr qk, ?_⟩
  intro p l e R s m args below meth c dC dI dA QF z u hA hd1 hd2 hz hu hc hs hr H locs ls hC hl
  obtain ⟨hx, hb, -, -, hown, hts, -, -, hKX, -⟩ := id hA
  have hKn := hKX.1 κ hκ
  refine W.newcK hx hb hown (hts _ hw) (hts _ (k_ini κ hκ).1) (hts _ (k_ini κ hκ).2) rfl hd (by omega) (by omega) hKn.2.1 hC.1 fun H1 kC' hkC e1 z1 o1 => ?_
  refine W.cs (cells' := hZ (nw h κ (kN κ)) - z) (slots' := hU (nw h κ (kN κ)) - u) (by rw [hZ_nw]; omega) (by rw [hU_nw]; omega) ?_
  refine q4 p l e R s m args below meth c dC dI dA QF z u hA hd1 hd2 (by rw [hZ_nw]; omega) (by rw [hU_nw]; omega) hc hs hr H1 locs ls (cu_new hC z1 o1 (Or.inl ⟨by rw [hK_nw, if_pos rfl]; exact hκ, ?_⟩)) hl
  rw [hK_nw, if_pos rfl]
  exact (u_born (kTy κ) hts (k_in κ hκ) hKn hkC e1 (k_ty κ hκ)).to (fun k hk => fv_nw (k_nofl κ hκ k hk).1 (k_nofl κ hκ k hk).2 h κ (kN κ) k)
theorem x_newa {κ : Nat} {at0 : ArrayType} {n : Int32} (hw : Cond.arrayClass (newarray.typeOf at0) ∈ tb) (ht : newarray.typeOf at0 = aTy κ) (hk1 : 13 ≤ κ) (hk2 : κ < 17) (hn : ¬ n < 0) (hb1 : n.toNatClampNeg ≤ 1000000) (hd : decode M.2.1 pc = .ok (.newarray at0, 2)) (hp : pc + 2 = pc2)
    (kx : Ex G d M pc2 lv (.ref (hZ h) :: st) (nw h κ n.toNatClampNeg) Q) : Ex G d M pc lv (.int n :: st) h Q := by
  subst hp
  obtain ⟨r, h2, q1, qk, q4⟩ := kx
  have q2 := qk.1
  have q3 := qk.2.1
  rw [hZ_nw] at q2
  rw [hU_nw] at q3
  refine ⟨r, h2, q1, (KP.nw h _ _).tr qk, ?_⟩
  intro p l e R s m args below meth c dC dI dA QF z u hA hd1 hd2 hz hu hc hs hr H locs ls hC hl
  obtain ⟨hx, hb, -, -, hown, hts, -, -, hKX, -⟩ := id hA
  have hbytes : n.toNatClampNeg * componentBytes (newarray.typeOf at0) ≤ 536870912 := by
    have h8 : componentBytes (newarray.typeOf at0) ≤ 8 := by cases at0 <;> decide
    exact Nat.le_trans (Nat.mul_le_mul hb1 h8) (by decide)
  refine va_newaK hx hb (hts _ hw) rfl hd rfl hn rfl hbytes (by omega) (by omega) hC.1 fun H1 cA e1 z1 o1 hAr hNm => ?_
  have hRA := (hKX.2.1 κ hk1 (by omega)).2
  have ecA : cA = dA κ := by
    rw [ht] at hNm
    have h3 : s.vm.findClass ("[" ++ (aTy κ).toString) = some (dA κ) := by
      rcases (show κ = 13 ∨ κ = 14 ∨ κ = 15 ∨ κ = 16 by omega) with rfl | rfl | rfl | rfl <;> exact hRA
    exact Option.some.inj (hNm.symm.trans h3)
  refine W.cs (cells' := hZ (nw h κ n.toNatClampNeg) - z) (slots' := hU (nw h κ n.toNatClampNeg) - u) (by rw [hZ_nw]; omega) (by rw [hU_nw]; omega) ?_
  refine q4 p l e R s m args below meth c dC dI dA QF z u hA hd1 hd2 (by rw [hZ_nw]; omega) (by rw [hU_nw]; omega) hc hs hr H1 locs ls (cu_new hC z1 o1 (Or.inr ⟨by rw [hK_nw, if_pos rfl]; exact hk1, by rw [hK_nw, if_pos rfl]; omega, by rw [hN_nw, if_pos rfl]; omega, ?_⟩)) hl
  rw [hK_nw, if_pos rfl, hN_nw, if_pos rfl, e1, ecA, ht]
  have hnf : aTy κ ≠ .float ∧ aTy κ ≠ .double := by rcases (show κ = 13 ∨ κ = 14 ∨ κ = 15 ∨ κ = 16 by omega) with rfl | rfl | rfl | rfl <;> decide
  congr 2
  funext j
  exact fv_nw hnf.1 hnf.2 h κ _ j
theorem x_newq {κ i : Nat} {n : Int32} (hw : Cond.classLink M.1.cls i (kC (elK κ)) ∈ tb) (hao : kC (elK κ) ∈ aoC) (hk1 : 17 ≤ κ) (hk2 : κ < 21) (hn : ¬ n < 0) (hb1 : n.toNatClampNeg ≤ 1000000) (hd : decode M.2.1 pc = .ok (.anewarray i, 3)) (hp : pc + 3 = pc2)
    (kx : Ex G d M pc2 lv (.ref (hZ h) :: st) (nw h κ n.toNatClampNeg) Q) : Ex G d M pc lv (.int n :: st) h Q := by
  subst hp
  obtain ⟨r, h2, q1, qk, q4⟩ := kx
  have q2 := qk.1
  have q3 := qk.2.1
  rw [hZ_nw] at q2
  rw [hU_nw] at q3
  refine ⟨r, h2, q1, (KP.nw h _ _).tr qk, ?_⟩
  intro p l e R s m args below meth c dC dI dA QF z u hA hd1 hd2 hz hu hc hs hr H locs ls hC hl
  obtain ⟨hx, hb, -, -, hown, hts, -, -, hKX, -⟩ := id hA
  obtain ⟨eT, eK⟩ := elK_ok κ hk1 hk2
  have hRA := (hKX.2.1 κ (by omega) hk2).2
  rw [eT] at hRA
  obtain ⟨kA, comp, r1, r2, r3, r4⟩ := hRA
  refine W.anew hx hb hown (hts _ hw) (va_AO.use (hKX.2.2.2 _ hao)) rfl hd rfl hn (by omega) (by omega) (by omega) fun cA kA' comp' f1 f2 f3 f4 => ?_
  have ecA : cA = dA κ := Option.some.inj (f1.symm.trans r4)
  refine W.cs (cells' := hZ (nw h κ n.toNatClampNeg) - z) (slots' := hU (nw h κ n.toNatClampNeg) - u) (by rw [hZ_nw]; omega) (by rw [hU_nw]; omega) ?_
  have hz0 : H.size = hZ h := hC.1
  rw [hz0]
  refine q4 p l e R s m args below meth c dC dI dA QF z u hA hd1 hd2 (by rw [hZ_nw]; omega) (by rw [hU_nw]; omega) hc hs hr _ locs ls (cu_new hC (by simp [hz0]) (fun q hq => by rw [Array.getElem?_push, if_neg (by omega)]) (Or.inr ⟨by rw [hK_nw, if_pos rfl]; omega, by rw [hK_nw, if_pos rfl]; omega, by rw [hN_nw, if_pos rfl]; omega, ?_⟩)) hl
  rw [hK_nw, if_pos rfl, hN_nw, if_pos rfl, ← hz0, Array.getElem?_push_size, ecA, arrV_new]
  congr 2
  funext j
  rw [eT]
  rw [hz0]
  exact fv_nw (ty := .object (kC (elK κ))) (fun q => by cases q) (fun q => by cases q) h κ _ j
/-- the law of a method's room, by depth -/
def rmD (d mc ms : Nat) : Room := { frames := d, cells := mc, slots := ms, locals := 64 * d }
def PCx (G : GG) (h : HP) (as : List Value) (dC : Nat → ClassId) (dI : Nat → Nat → Nat) (dA : Nat → ClassId) : Array Value → State → Prop := va_Pc as (fun U => KX dC dI dA U ∧ SX G U ∧ U.heap.size = hZ h ∧ ∀ a, G.1 ≤ a → a < hZ h → at1 dC dI dA h a U.heap)
def QCx (G : GG) (h2 : HP) (r : Option Value) (dC : Nat → ClassId) (dI : Nat → Nat → Nat) (dA : Nat → ClassId) : Array Value → State → Outcome → State → Prop := fun _ st o t => o = .returned r ∧ t.heap.size = hZ h2 ∧ (∀ a, G.1 ≤ a → a < hZ h2 → at1 dC dI dA h2 a t.heap) ∧ va_F (fun q => G.1 ≤ q) st t
/-- A CALL of M with these arguments returns, with an answer and a heap of which Q holds -/
def Cal (G : GG) (d : Nat) (M : MM) (as : List Value) (h : HP) (Q : Option Value → HP → Prop) : Prop :=
  ∃ (r : Option Value) (h2 : HP), Q r h2 ∧ KP h h2 ∧ ∀ l dC dI dA, Met l M.1 (Cond.code M.1 M.2.1 M.2.2.1 M.2.2.2 :: tb) (rmD d (hZ h2 - hZ h) (hU h2 - hU h)) (PCx G h as dC dI dA) (QCx G h2 r dC dI dA) (hZ h2 - hZ h) (hU h2 - hU h) (fun q => G.1 ≤ q)
theorem Cal.mono {as : List Value} {Q' : Option Value → HP → Prop} (hc : Cal G d M as h Q) (hq : ∀ r h2, KP h h2 → Q r h2 → Q' r h2) : Cal G d M as h Q' := by
  obtain ⟨r, h2, q1, q2⟩ := hc
  exact ⟨r, h2, hq r h2 q2.1 q1, q2⟩
theorem Ex.mono {Q' : Option Value → HP → Prop} (hc : Ex G d M pc lv st h Q) (hq : ∀ r h2, KP h h2 → Q r h2 → Q' r h2) : Ex G d M pc lv st h Q' := by
  obtain ⟨r, h2, q1, q2⟩ := hc
  exact ⟨r, h2, hq r h2 q2.1 q1, q2⟩
/-- fewer locals -/
theorem x_sub {lv2 : List (Nat × Value)} (ps : List Nat) (h2 : lv_pick lv ps = lv2) (k : Ex G d M pc lv2 st h Q) : Ex G d M pc lv st h Q := by
  obtain ⟨r, h3, q1, q2, q4⟩ := k
  exact ⟨r, h3, q1, q2, fun p l e R s m args below meth c dC dI dA QF z u hA hd hd2 hz hu hc hs hr H locs ls hC hl => q4 p l e R s m args below meth c dC dI dA QF z u hA hd hd2 hz hu hc hs hr H locs ls hC (lv_sub hl ps h2)⟩
theorem x_ret {v : Int32} {ty : FieldType} (ht : M.2.2.2 = some ty) (hn : narrow ty (.int v) = .int v) (hd : decode M.2.1 pc = .ok (.ireturn, 1)) (hQ : Q (some (.int v)) h) : Ex G d M pc lv [.int v] h Q :=
  ⟨some (.int v), h, hQ, KP.rf _, fun p l e R s m args below meth c dC dI dA QF z u hA hd1 hd2 hz hu hc hs hr H locs ls hC hl => hr H locs ls pc _ hC (Or.inl ⟨v, ty, ht, hn, rfl, rfl, hd⟩)⟩
theorem x_retZ {v : Int32} (ht : M.2.2.2 = some .boolean) (hv : v = 0 ∨ v = 1) (hd : decode M.2.1 pc = .ok (.ireturn, 1)) (hQ : Q (some (.int v)) h) : Ex G d M pc lv [.int v] h Q := x_ret ht (by rcases hv with rfl | rfl <;> rfl) hd hQ
theorem x_retL {v : Int64} (ht : M.2.2.2 = some .long) (hd : decode M.2.1 pc = .ok (.lreturn, 1)) (hQ : Q (some (.long v)) h) : Ex G d M pc lv [.long v] h Q :=
  ⟨some (.long v), h, hQ, KP.rf _, fun p l e R s m args below meth c dC dI dA QF z u hA hd1 hd2 hz hu hc hs hr H locs ls hC hl => hr H locs ls pc _ hC (Or.inr (Or.inl ⟨v, ht, rfl, rfl, hd⟩))⟩
theorem x_retR {v : Option Nat} {rt : FieldType} (ht : M.2.2.2 = some rt) (hr0 : isRt rt) (hd : decode M.2.1 pc = .ok (.areturn, 1)) (hQ : Q (some (va_rf v)) h) : Ex G d M pc lv [va_rf v] h Q :=
  ⟨some (va_rf v), h, hQ, KP.rf _, fun p l e R s m args below meth c dC dI dA QF z u hA hd1 hd2 hz hu hc hs hr H locs ls hC hl => hr H locs ls pc _ hC (Or.inr (Or.inr (Or.inl ⟨va_rf v, rt, ht, hr0, by cases v; exact Or.inl rfl; exact Or.inr ⟨_, rfl⟩, rfl, rfl, hd⟩)))⟩
theorem x_retV (ht : M.2.2.2 = none) (hd : decode M.2.1 pc = .ok (.return_, 1)) (hQ : Q none h) : Ex G d M pc lv [] h Q :=
  ⟨none, h, hQ, KP.rf _, fun p l e R s m args below meth c dC dI dA QF z u hA hd1 hd2 hz hu hc hs hr H locs ls hC hl => hr H locs ls pc _ hC (Or.inr (Or.inr (Or.inr ⟨ht, rfl, rfl, hd⟩)))⟩
set_option maxHeartbeats 1000000 in
theorem cal_of {as : List Value} (hpl : plainName M.1.cls = true) (hlen : (lg_sl as).length ≤ M.2.2.1) (hx : Ex G d M 0 (lv_args 0 as) [] h Q) : Cal G d M as h Q := by
  obtain ⟨r, h2, q1, q2, q4⟩ := hx
  refine ⟨r, h2, q1, q2, fun l dC dI dA => ?_⟩
  refine Met.ofW (cc := M.2.1) (maxL := M.2.2.1) (ret := M.2.2.2) hpl rfl ?_
  intro p e s m args below meth c s₁ B hml hv
  obtain ⟨rfl, hKX, hSX, hsz, hat⟩ := hv
  have hts := atoms_spec (ws := Cond.code M.1 M.2.1 M.2.2.1 M.2.2.2 :: tb) B.pre
  have hA : AX G M p s m as.toArray meth c dC dI dA := ⟨B.exec, B.bytes, hml, B.returns, findClass_of_methodNamed B.named, fun w hw => hts w (List.mem_cons_of_mem _ hw), B.notSynchronized, fun e => (name_of_methodNamed B.named B.method).1.trans e, hKX, hSX⟩
  have hl := lv_entry as (n := M.2.2.1) hlen
  rw [lg_entry_eq]
  have hC : CU G dC dI dA s h s.heap [] := ⟨hsz, hat, va_S.rf⟩
  have w := q4 p l e (rmD d (hZ h2 - hZ h) (hU h2 - hU h)) s m as.toArray below meth c dC dI dA (MQ below (QCx G h2 r dC dI dA) as.toArray s (hZ h2 - hZ h) (hU h2 - hU h) (fun q => G.1 ≤ q)) (hZ h) (hU h) hA (Nat.le_refl _) (Nat.le_refl _) (Nat.le_refl _) (Nat.le_refl _) (Nat.le_refl _) (Nat.le_refl _) ?_ s.heap [] _ hC hl
  · exact W.cs (by omega) (by omega) w
  · intro H locs ls pc2 st2 hC2 hR
    have hq : ∀ t : State, t.heap = H → s.WarmedH t.vm → QCx G h2 r dC dI dA as.toArray s (.returned r) t := fun t ht _ => ⟨rfl, by rw [ht]; exact hC2.1, by rw [ht]; exact hC2.2.1, hC2.2.2.F ht⟩
    rcases hR with ⟨v, ty, e1, e2, rfl, rfl, hd⟩ | ⟨v, e1, rfl, rfl, hd⟩ | ⟨v, rt, e1, e2, e3, rfl, rfl, hd⟩ | ⟨e1, rfl, rfl, hd⟩
    · exact W.zret hA.1 hA.2.1 (hA.2.2.2.1.trans e1) e2 hq hC2.2.2.2.2 hd (hlocks := hA.2.2.2.2.2.2.1)
    · exact W.lret hA.1 hA.2.1 (hA.2.2.2.1.trans e1) hq hC2.2.2.2.2 hd (hlocks := hA.2.2.2.2.2.2.1)
    · exact W.aret hA.1 hA.2.1 (hA.2.2.2.1.trans e1) e2 e3 hq hC2.2.2.2.2 hd (hlocks := hA.2.2.2.2.2.2.1)
    · exact W.vret hA.1 hA.2.1 (hA.2.2.2.1.trans e1) hq hC2.2.2.2.2 hd (hlocks := hA.2.2.2.2.2.2.1)
end XN
