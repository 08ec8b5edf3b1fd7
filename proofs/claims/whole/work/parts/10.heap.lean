/-! ===== the heap as functions of address and slot; kinds 0..12: objects of class kC, 13..20: arrays ===== -/
abbrev HP : Type := (Nat → Nat → Int32) × (Nat → Nat → Int64) × (Nat → Nat → Option Nat) × (Nat → Nat) × (Nat → Nat) × Nat × Nat
def hI (h : HP) (a k : Nat) : Int32 := h.1 a k
def hL (h : HP) (a k : Nat) : Int64 := h.2.1 a k
def hR (h : HP) (a k : Nat) : Option Nat := h.2.2.1 a k
def hK (h : HP) (a : Nat) : Nat := h.2.2.2.1 a
def hN (h : HP) (a : Nat) : Nat := h.2.2.2.2.1 a
def hZ (h : HP) : Nat := h.2.2.2.2.2.1
def hU (h : HP) : Nat := h.2.2.2.2.2.2
def sI (h : HP) (a k : Nat) (v : Int32) : HP := (fun b j => if b = a ∧ j = k then v else h.1 b j, h.2)
def sL (h : HP) (a k : Nat) (v : Int64) : HP := (h.1, fun b j => if b = a ∧ j = k then v else h.2.1 b j, h.2.2)
def sR (h : HP) (a k : Nat) (v : Option Nat) : HP := (h.1, h.2.1, fun b j => if b = a ∧ j = k then v else h.2.2.1 b j, h.2.2.2)
/-- a new cell of a kind, with so many slots -/
def nw (h : HP) (κ n : Nat) : HP := (fun b j => if b = hZ h then 0 else h.1 b j, fun b j => if b = hZ h then 0 else h.2.1 b j, fun b j => if b = hZ h then none else h.2.2.1 b j,
  fun b => if b = hZ h then κ else h.2.2.2.1 b, fun b => if b = hZ h then n else h.2.2.2.2.1 b, hZ h + 1, hU h + n)
/-- what a slot of a type holds -/
def fv (h : HP) (a k : Nat) (ty : FieldType) : Value := match ty with
  | .long => .long (hL h a k)
  | .object _ => va_rf (hR h a k)
  | .array _ => va_rf (hR h a k)
  | _ => .int (hI h a k)
def aTy : Nat → FieldType
  | 13 => .byte
  | 14 => .int
  | 15 => .long
  | 16 => .boolean
  | 17 => .object "RoundAnothers$Errand"
  | 18 => .object "RoundAnothers$Script"
  | 19 => .object "RoundAnothers$State"
  | _ => .object "RoundAnothers$Thing"
def at1 (dC : Nat → ClassId) (dI : Nat → Nat → Nat) (dA : Nat → ClassId) (h : HP) (a : Nat) (H : Heap) : Prop :=
  (hK h a < 13 ∧ t_OB a (dC (hK h a)) (kN (hK h a)) (dI (hK h a)) H (fun k => fv h a k (kTy (hK h a) k))) ∨
  (13 ≤ hK h a ∧ hK h a < 21 ∧ hN h a < 2 ^ 31 ∧ H[a]? = some (arrV (dA (hK h a)) (hN h a) (fun j => fv h a j (aTy (hK h a)))))
theorem hI_sI (h : HP) (a k : Nat) (v : Int32) (b j : Nat) : hI (sI h a k v) b j = if b = a ∧ j = k then v else hI h b j := rfl
theorem hL_sI (h : HP) (a k : Nat) (v : Int32) (b j : Nat) : hL (sI h a k v) b j = hL h b j := rfl
theorem hR_sI (h : HP) (a k : Nat) (v : Int32) (b j : Nat) : hR (sI h a k v) b j = hR h b j := rfl
theorem hK_sI (h : HP) (a k : Nat) (v : Int32) (b : Nat) : hK (sI h a k v) b = hK h b := rfl
theorem hN_sI (h : HP) (a k : Nat) (v : Int32) (b : Nat) : hN (sI h a k v) b = hN h b := rfl
theorem hZ_sI (h : HP) (a k : Nat) (v : Int32) : hZ (sI h a k v) = hZ h := rfl
theorem hU_sI (h : HP) (a k : Nat) (v : Int32) : hU (sI h a k v) = hU h := rfl
theorem hI_sL (h : HP) (a k : Nat) (v : Int64) (b j : Nat) : hI (sL h a k v) b j = hI h b j := rfl
theorem hL_sL (h : HP) (a k : Nat) (v : Int64) (b j : Nat) : hL (sL h a k v) b j = if b = a ∧ j = k then v else hL h b j := rfl
theorem hR_sL (h : HP) (a k : Nat) (v : Int64) (b j : Nat) : hR (sL h a k v) b j = hR h b j := rfl
theorem hK_sL (h : HP) (a k : Nat) (v : Int64) (b : Nat) : hK (sL h a k v) b = hK h b := rfl
theorem hN_sL (h : HP) (a k : Nat) (v : Int64) (b : Nat) : hN (sL h a k v) b = hN h b := rfl
theorem hZ_sL (h : HP) (a k : Nat) (v : Int64) : hZ (sL h a k v) = hZ h := rfl
theorem hU_sL (h : HP) (a k : Nat) (v : Int64) : hU (sL h a k v) = hU h := rfl
theorem hI_sR (h : HP) (a k : Nat) (v : Option Nat) (b j : Nat) : hI (sR h a k v) b j = hI h b j := rfl
theorem hL_sR (h : HP) (a k : Nat) (v : Option Nat) (b j : Nat) : hL (sR h a k v) b j = hL h b j := rfl
theorem hR_sR (h : HP) (a k : Nat) (v : Option Nat) (b j : Nat) : hR (sR h a k v) b j = if b = a ∧ j = k then v else hR h b j := rfl
theorem hK_sR (h : HP) (a k : Nat) (v : Option Nat) (b : Nat) : hK (sR h a k v) b = hK h b := rfl
theorem hN_sR (h : HP) (a k : Nat) (v : Option Nat) (b : Nat) : hN (sR h a k v) b = hN h b := rfl
theorem hZ_sR (h : HP) (a k : Nat) (v : Option Nat) : hZ (sR h a k v) = hZ h := rfl
theorem hU_sR (h : HP) (a k : Nat) (v : Option Nat) : hU (sR h a k v) = hU h := rfl
theorem hI_nw (h : HP) (κ n b j : Nat) : hI (nw h κ n) b j = if b = hZ h then 0 else hI h b j := rfl
theorem hL_nw (h : HP) (κ n b j : Nat) : hL (nw h κ n) b j = if b = hZ h then 0 else hL h b j := rfl
theorem hR_nw (h : HP) (κ n b j : Nat) : hR (nw h κ n) b j = if b = hZ h then none else hR h b j := rfl
theorem hK_nw (h : HP) (κ n b : Nat) : hK (nw h κ n) b = if b = hZ h then κ else hK h b := rfl
theorem hN_nw (h : HP) (κ n b : Nat) : hN (nw h κ n) b = if b = hZ h then n else hN h b := rfl
theorem hZ_nw (h : HP) (κ n : Nat) : hZ (nw h κ n) = hZ h + 1 := rfl
theorem hU_nw (h : HP) (κ n : Nat) : hU (nw h κ n) = hU h + n := rfl
theorem fv_eq {h h' : HP} {a k : Nat} (e1 : hI h' a k = hI h a k) (e2 : hL h' a k = hL h a k) (e3 : hR h' a k = hR h a k) (ty : FieldType) : fv h' a k ty = fv h a k ty := by
  unfold fv
  rw [e1, e2, e3]
/-- a cell that no function changes, where the heap keeps it -/
theorem at1.kept {dC : Nat → ClassId} {dI : Nat → Nat → Nat} {dA : Nat → ClassId} {h h' : HP} {a : Nat} {H H' : Heap} (hx : at1 dC dI dA h a H) (e0 : H'[a]? = H[a]?) (e1 : ∀ k, hI h' a k = hI h a k) (e2 : ∀ k, hL h' a k = hL h a k) (e3 : ∀ k, hR h' a k = hR h a k) (e4 : hK h' a = hK h a) (e5 : hN h' a = hN h a) : at1 dC dI dA h' a H' := by
  have ef : ∀ k ty, fv h' a k ty = fv h a k ty := fun k ty => fv_eq (e1 k) (e2 k) (e3 k) ty
  rcases hx with ⟨c1, c2⟩ | ⟨c1, c2, c3, c4⟩
  · refine Or.inl ⟨by rw [e4]; exact c1, ?_⟩
    rw [e4]
    exact (c2.kept e0).to (fun k _ => (ef k _).symm)
  · refine Or.inr ⟨by rw [e4]; exact c1, by rw [e4]; exact c2, by rw [e5]; exact c3, ?_⟩
    rw [e4, e5, e0, c4]
    simp only [ef]
theorem at1.lt {dC : Nat → ClassId} {dI : Nat → Nat → Nat} {dA : Nat → ClassId} {h : HP} {a : Nat} {H : Heap} (hx : at1 dC dI dA h a H) : a < H.size := by
  rcases hx with ⟨-, cell, c2, -⟩ | ⟨-, -, -, c4⟩
  · exact (Array.getElem?_eq_some_iff.mp c2).1
  · exact (Array.getElem?_eq_some_iff.mp c4).1
/-! ===== what is fixed over a whole run: G.1 the heap's size at the start, G.2.1 addresses of constants, the script ===== -/
abbrev GG : Type := Nat × (Nat → Nat) × Nat × (Nat → Int32)
def nestW : List Cond := tables_1.filter (fun w => match w with | .methodLinkNest _ _ _ _ => true | .castable _ _ => true | _ => false)
def aoC : List String := ["RoundAnothers$Errand", "RoundAnothers$Script", "RoundAnothers$State", "RoundAnothers$Thing"]
def KX (dC : Nat → ClassId) (dI : Nat → Nat → Nat) (dA : Nat → ClassId) (U : State) : Prop :=
  (∀ κ, κ < 13 → u_Kn U (kC κ) (kT κ) (kN κ) (dC κ) (dI κ)) ∧ (∀ κ, 13 ≤ κ → κ < 21 → ArrOfT U (dA κ) (aTy κ) ∧ va_RA U (dA κ) (aTy κ)) ∧ (∀ w ∈ nestW, va_Nw w U) ∧ (∀ C ∈ aoC, va_AO C U)
theorem KX.warm {dC : Nat → ClassId} {dI : Nat → Nat → Nat} {dA : Nat → ClassId} {s U : State} (hW : s.WarmedH U.vm) (h : KX dC dI dA s) : KX dC dI dA U := by
  obtain ⟨h1, h2, h3, h4⟩ := h
  refine ⟨fun κ hκ => u_Kn_moved hW.alike (h1 κ hκ), fun κ a b => ⟨arrOfT_moved hW.alike (h2 κ a b).1, (h2 κ a b).2.moved hW.alike⟩, fun w hw => ?_, fun C hC => (h4 C hC).moved hW.alike⟩
  have h5 := h3 w hw
  have h6 := (List.mem_filter.mp hw).2
  cases w <;> first | (simp at h6; done) | exact va_Nw.warmM hW h5 | exact va_Nw.warmC hW h5
def wdTx : String := "long width height ground worth wells river deep like own year two far may not join want if and or wide well house "
def wdBy : List Int32 := wdTx.toList.map (fun c => Int32.ofNat c.toNat)
def bsd : Nat → Int32
  | 0 => -40
  | 1 => 1
  | 2 => 40
  | _ => -1
def SX (G : GG) (U : State) : Prop :=
  va_T .int (G.2.1 0) 4 (fun j => .int (bsd j)) (fun q => G.1 ≤ q) U U.heap ∧ va_Z "RoundAnothers$Ways" "BESIDE" "[I" (.ref (G.2.1 0)) (fun q => G.1 ≤ q) U U.heap ∧
  (va_X (G.2.1 3) G.2.2.1 G.2.2.2 U U.heap ∧ G.2.1 3 < G.1) ∧
  vk_R "RoundAnothers$Tape" 64 wdTx (G.2.1 1) U ∧ vk_S 1 [114] [wdBy] (fun _ => G.2.1 1) (fun _ => G.2.1 2) (fun q => G.1 ≤ q) U U.heap ∧
  va_Z "java/lang/String" "COMPACT_STRINGS" "Z" (.int 1) (fun q => G.1 ≤ q) U U.heap ∧ va_Zq "jdk/internal/util/Preconditions" "SIOOBE_FORMATTER" "Ljava/util/function/BiFunction;" (fun q => G.1 ≤ q) U U.heap ∧ G.1 ≤ U.heap.size
theorem SX.warm {G : GG} {s U : State} (hW : s.WarmedH U.vm) (hz : s.heap.size ≤ U.heap.size) (hq : ∀ q : Nat, q < s.heap.size → ¬ (fun q => G.1 ≤ q) q → U.heap[q]? = s.heap[q]?) (h : SX G s) : SX G U := by
  obtain ⟨h1, h2, ⟨h3, h3'⟩, h4, h5, h6, h7, h8⟩ := h
  exact ⟨(h1.moved hW.alike).kept hq, (h2.moved hW.alike).kept hq, ⟨(h3.moved hW.alike).kept (hq _ (by omega) (Nat.not_le.mpr h3')), h3'⟩, h4.warm hW, (h5.moved hW.alike).kept hq, (h6.moved hW.alike).kept hq, (h7.moved hW.alike).kept hq, by omega⟩
/-- the machine at a method's entry -/
def AX (G : GG) (M : MM) (p : Program) (s : State) (m : MethodId) (args : Array Value) (meth : Method) (c : Code) (dC : Nat → ClassId) (dI : Nat → Nat → Nat) (dA : Nat → ClassId) : Prop :=
  p.tables.exec = Jvm.exec ∧ c.code = M.2.1 ∧ c.maxLocals = M.2.2.1 ∧ meth.sig.returnType = M.2.2.2 ∧ s.vm.findClass M.1.cls = some m.cls ∧ (∀ w ∈ tb, w.before args s = true) ∧ meth.locks = false ∧ (M.1.name = "<init>" → meth.name = "<init>") ∧ KX dC dI dA s ∧ SX G s
/-- the heap as it stands now -/
def CU (G : GG) (dC : Nat → ClassId) (dI : Nat → Nat → Nat) (dA : Nat → ClassId) (s : State) (h : HP) (H : Heap) (locs : List Loc) : Prop :=
  H.size = hZ h ∧ (∀ a, G.1 ≤ a → a < hZ h → at1 dC dI dA h a H) ∧ va_S (fun q => G.1 ≤ q) s.heap H locs
def RetI (M : MM) (r : Option Value) (pc : Nat) (st : List Value) : Prop :=
  (∃ v ty, M.2.2.2 = some ty ∧ narrow ty (.int v) = .int v ∧ r = some (.int v) ∧ st = [.int v] ∧ decode M.2.1 pc = .ok (.ireturn, 1)) ∨
  (∃ v, M.2.2.2 = some .long ∧ r = some (.long v) ∧ st = [.long v] ∧ decode M.2.1 pc = .ok (.lreturn, 1)) ∨
  (∃ (v : Value) (rt : FieldType), M.2.2.2 = some rt ∧ ((∃ n, rt = .object n) ∨ ∃ t, rt = .array t) ∧ (v = .null ∨ ∃ a, v = .ref a) ∧ r = some v ∧ st = [v] ∧ decode M.2.1 pc = .ok (.areturn, 1)) ∨
  (M.2.2.2 = none ∧ r = none ∧ st = [] ∧ decode M.2.1 pc = .ok (.return_, 1))
/-- later: no fewer cells, and what stood keeps its kind and length -/
def KP (h h2 : HP) : Prop := hZ h ≤ hZ h2 ∧ hU h ≤ hU h2 ∧ ∀ a, a < hZ h → hK h2 a = hK h a ∧ hN h2 a = hN h a
theorem KP.rf (h : HP) : KP h h := ⟨Nat.le_refl _, Nat.le_refl _, fun _ _ => ⟨rfl, rfl⟩⟩
theorem KP.tr {h h1 h2 : HP} (p : KP h h1) (q : KP h1 h2) : KP h h2 := ⟨Nat.le_trans p.1 q.1, Nat.le_trans p.2.1 q.2.1, fun a ha => ⟨(q.2.2 a (Nat.lt_of_lt_of_le ha p.1)).1.trans (p.2.2 a ha).1, (q.2.2 a (Nat.lt_of_lt_of_le ha p.1)).2.trans (p.2.2 a ha).2⟩⟩
theorem KP.nw (h : HP) (κ n : Nat) : KP h (nw h κ n) := ⟨by rw [hZ_nw]; omega, by rw [hU_nw]; omega, fun a ha => ⟨by rw [hK_nw, if_neg (by omega)], by rw [hN_nw, if_neg (by omega)]⟩⟩
/-- FROM HERE the activation ends, with an answer and a heap of which Q holds -/
def Ex (G : GG) (d : Nat) (M : MM) (pc : Nat) (lv : List (Nat × Value)) (st : List Value) (h : HP) (Q : Option Value → HP → Prop) : Prop :=
  ∃ (r : Option Value) (h2 : HP), Q r h2 ∧ KP h h2 ∧
    ∀ (p : Program) (l : Launch) (e : Env) (R : Room) (s : State) (m : MethodId) (args : Array Value) (below : List Frame) (meth : Method) (c : Code) (dC : Nat → ClassId) (dI : Nat → Nat → Nat) (dA : Nat → ClassId) (QF : State → Prop) (z u : Nat),
      AX G M p s m args meth c dC dI dA → d ≤ R.frames → 64 * d ≤ R.locals → z ≤ hZ h → u ≤ hU h → hZ h2 - z ≤ R.cells → hU h2 - u ≤ R.slots →
      (∀ H locs ls pc2 st2, CU G dC dI dA s h2 H locs → RetI M r pc2 st2 → W p l e R s m args below meth c H locs (hZ h2 - z) (hU h2 - u) QF (F0 m pc2 ls st2)) →
      ∀ H locs ls, CU G dC dI dA s h H locs → lv_has ls M.2.2.1 lv → W p l e R s m args below meth c H locs (hZ h - z) (hU h - u) QF (F0 m pc ls st)
/-- a step that leaves the heap -/
theorem ex_step {G : GG} {d : Nat} {M : MM} {pc pc2 : Nat} {lv lv2 : List (Nat × Value)} {st st2 : List Value} {h : HP} {Q : Option Value → HP → Prop}
    (hstep : ∀ (p : Program) (l : Launch) (e : Env) (R : Room) (s : State) (m : MethodId) (args : Array Value) (below : List Frame) (meth : Method) (c : Code) (dC : Nat → ClassId) (dI : Nat → Nat → Nat) (dA : Nat → ClassId) (QF : State → Prop) (cells slots : Nat) (H : Heap) (locs : List Loc) (ls : Array Slot),
      AX G M p s m args meth c dC dI dA → CU G dC dI dA s h H locs → lv_has ls M.2.2.1 lv → (∀ ls2, lv_has ls2 M.2.2.1 lv2 → W p l e R s m args below meth c H locs cells slots QF (F0 m pc2 ls2 st2)) → W p l e R s m args below meth c H locs cells slots QF (F0 m pc ls st))
    (k : Ex G d M pc2 lv2 st2 h Q) : Ex G d M pc lv st h Q := by
  obtain ⟨r, h2, q1, q2, q4⟩ := k
  refine ⟨r, h2, q1, q2, ?_⟩
  intro p l e R s m args below meth c dC dI dA QF z u hA hd hd2 hz hu hc hs hr H locs ls hC hl
  exact hstep p l e R s m args below meth c dC dI dA QF _ _ H locs ls hA hC hl (fun ls2 hl2 => q4 p l e R s m args below meth c dC dI dA QF z u hA hd hd2 hz hu hc hs hr H locs ls2 hC hl2)
/-- a step that changes the heap, and makes no cell -/
theorem ex_put {G : GG} {d : Nat} {M : MM} {pc pc2 : Nat} {lv : List (Nat × Value)} {st st2 : List Value} {h h1 : HP} {Q : Option Value → HP → Prop} (ez : hZ h1 = hZ h) (eu : hU h1 = hU h) (e4 : ∀ b, hK h1 b = hK h b) (e5 : ∀ b, hN h1 b = hN h b)
    (hstep : ∀ (p : Program) (l : Launch) (e : Env) (R : Room) (s : State) (m : MethodId) (args : Array Value) (below : List Frame) (meth : Method) (c : Code) (dC : Nat → ClassId) (dI : Nat → Nat → Nat) (dA : Nat → ClassId) (QF : State → Prop) (cells slots : Nat) (H : Heap) (locs : List Loc) (ls : Array Slot),
      AX G M p s m args meth c dC dI dA → CU G dC dI dA s h H locs → lv_has ls M.2.2.1 lv → (∀ H1 locs1, CU G dC dI dA s h1 H1 locs1 → W p l e R s m args below meth c H1 locs1 cells slots QF (F0 m pc2 ls st2)) → W p l e R s m args below meth c H locs cells slots QF (F0 m pc ls st))
    (k : Ex G d M pc2 lv st2 h1 Q) : Ex G d M pc lv st h Q := by
  obtain ⟨r, h2, q1, q2, q4⟩ := k
  rw [ez] at q4
  rw [eu] at q4
  refine ⟨r, h2, q1, KP.tr ⟨Nat.le_of_eq ez.symm, Nat.le_of_eq eu.symm, fun a _ => ⟨e4 a, e5 a⟩⟩ q2, ?_⟩
  intro p l e R s m args below meth c dC dI dA QF z u hA hd hd2 hz hu hc hs hr H locs ls hC hl
  exact hstep p l e R s m args below meth c dC dI dA QF _ _ H locs ls hA hC hl (fun H1 locs1 hC1 => q4 p l e R s m args below meth c dC dI dA QF z u hA hd hd2 hz hu hc hs hr H1 locs1 ls hC1 hl)
