/-! ===== Math.max, Math.min ===== -/
def mxI (x y : Int32) : Int32 := if x < y then y else x
def mnI (x y : Int32) : Int32 := if y < x then y else x
def mxL (x y : Int64) : Int64 := if y < x then x else y
def mnL (x y : Int64) : Int64 := if y < x then y else x
theorem tb_mi : Cond.initialized "java/lang/Math" ∈ tb := tb_c1 20 rfl rfl
theorem tb_mns : Cond.static Lib.Math.min.name ∈ tb := tb_c4 99 rfl rfl
theorem tb_mnc : Cond.code Lib.Math.min.name Lib.Math.min.code 2 (some .int) ∈ tb := tb_c4 100 rfl rfl
theorem tb_mxs : Cond.static Lib.Math.max.name ∈ tb := tb_c4 237 rfl rfl
theorem tb_mxc : Cond.code Lib.Math.max.name Lib.Math.max.code 2 (some .int) ∈ tb := tb_c4 238 rfl rfl
theorem tb_lns : Cond.static Lib.MathLoose.min_long.x ∈ tb := tb_c5 4 rfl rfl
theorem tb_lnc : Cond.code Lib.MathLoose.min_long.x Lib.MathLoose.min_long.code 4 (some .long) ∈ tb := tb_c5 5 rfl rfl
theorem tb_lxs : Cond.static Lib.MathLoose.max_long.x ∈ tb := tb_c5 7 rfl rfl
theorem tb_lxc : Cond.code Lib.MathLoose.max_long.x Lib.MathLoose.max_long.code 4 (some .long) ∈ tb := tb_c5 8 rfl rfl
section VM_max_long
variable {p : Program} {l : Launch} {e : Env} {R : Room} {s : State} {m : MethodId} {args : Array Value} {below : List Frame} {meth : Method} {c : Code} {cells slots : Nat} {T : State} {locs : List Loc}
theorem st_max_long (X : Stand p l e R s m args below meth c T locs cells slots) (hexec : p.tables.exec = Jvm.exec) {own : String} {index : Nat} (hown : s.vm.findClass own = some m.cls)
    (hlink : (Cond.methodLink own index Lib.MathLoose.max_long.x).before args s = true) (hstat : (Cond.static Lib.MathLoose.max_long.x).before args s = true) (hinit : (Cond.initialized "java/lang/Math").before args s = true)
    (hcode : (Cond.code Lib.MathLoose.max_long.x Lib.MathLoose.max_long.code 4 (some .long)).before args s = true)
    {g : JFrame} (hg : g.method = m) (hsize : g.locals.size = c.maxLocals) {a b : Int64} {rest : List Value} (hstack : g.stack = .long b :: .long a :: rest) (hdg : decode c.code g.pc = .ok (.invokestatic index, 3))
    (hframes : 1 ≤ R.frames) (hlocals : 2 * g.monitorRoom + (rest.map fun v => v.category).sum + 15 ≤ R.locals) (hcells : cells ≤ R.cells) (hslots : slots ≤ R.slots) :
    ∃ vm', Stand p l e R s m args below meth c (T.setVm vm') locs cells slots ∧
      ∀ target, Steps p.tables e below ((T.setVm vm').setTop { g with pc := g.pc + 3, stack := .long (if b < a then a else b) :: rest }) target → Steps p.tables e below (T.setTop g) target := by
  obtain ⟨v, T', X', ⟨first, t, hpost⟩, hstep⟩ := X.staticByContractV hexec hown hlink hstat hinit hcode (by decide)
    (Lib.MathLoose.max_long l)
    rfl rfl rfl rfl
    (fun args' first o s₂ h => by
      simp only [Lib.MathLoose.max_long.spec] at h
      cases o with
      | returned r => exact ⟨r, rfl⟩
      | threw y =>
        exfalso
        revert h
        simp only [Cond.after, Cond.holds, Cond.value]
        (repeat' split) <;> simp_all)
    hg hsize (argsL := [.long a, .long b]) (rest := rest)
    (fun sig hs => by
      have h : parseMethodDescriptor "(JJ)J" = some { parameters := [.long, .long], returnType := some .long } := by decide +kernel
      rw [show Lib.MathLoose.max_long.x.desc = "(JJ)J" from rfl, h] at hs
      rw [← Option.some.inj hs]; rfl)
    hstack hdg
    (fun vm' hW => by
      simp only [Lib.MathLoose.max_long.spec, Cond.before_and, Bool.and_eq_true]
      refine ⟨?_, rfl, rfl, rfl⟩
      have q := hcode
      rw [← Cond.code_setVm hW.alike] at q
      simp only [Cond.before, Cond.holds, Cond.value, State.methodNamed?, State.vm_setVm] at q ⊢
      exact q)
    (by show 0 + 1 ≤ R.frames; omega) (by show 2 * g.monitorRoom + (rest.map fun v => v.category).sum + (4 + 11) + 0 ≤ R.locals; omega) (by show cells + 0 ≤ R.cells; omega) (by show slots + 0 ≤ R.slots; omega)
  refine ⟨T', X', fun target h => hstep target ?_⟩
  have hv : v = some (.long (if b < a then a else b)) := by
    by_cases h1 : b < a
    · rcases v with _ | w
      · simp [Lib.MathLoose.max_long.spec, Cond.after, Cond.holds, Cond.value, Term.eval, h1] at hpost
      · cases w <;> simp [Lib.MathLoose.max_long.spec, Cond.after, Cond.holds, Cond.value, Term.eval, h1] at hpost ⊢
        first | exact hpost | exact Classical.byContradiction (fun e => by simp [e] at hpost)
    · by_cases h2 : a = b
      · subst h2
        rcases v with _ | w
        · simp [Lib.MathLoose.max_long.spec, Cond.after, Cond.holds, Cond.value, Term.eval] at hpost
        · cases w <;> simp [Lib.MathLoose.max_long.spec, Cond.after, Cond.holds, Cond.value, Term.eval] at hpost ⊢
          first | exact hpost | exact Classical.byContradiction (fun e => by simp [e] at hpost)
      · rcases v with _ | w
        · simp [Lib.MathLoose.max_long.spec, Cond.after, Cond.holds, Cond.value, Term.eval, h1, h2] at hpost
        · cases w <;> simp [Lib.MathLoose.max_long.spec, Cond.after, Cond.holds, Cond.value, Term.eval, h1, h2] at hpost ⊢
          first | exact hpost | exact Classical.byContradiction (fun e => by simp [e] at hpost)
  rw [hv]
  exact h
end VM_max_long
section VM_min_long
variable {p : Program} {l : Launch} {e : Env} {R : Room} {s : State} {m : MethodId} {args : Array Value} {below : List Frame} {meth : Method} {c : Code} {cells slots : Nat} {T : State} {locs : List Loc}
theorem st_min_long (X : Stand p l e R s m args below meth c T locs cells slots) (hexec : p.tables.exec = Jvm.exec) {own : String} {index : Nat} (hown : s.vm.findClass own = some m.cls)
    (hlink : (Cond.methodLink own index Lib.MathLoose.min_long.x).before args s = true) (hstat : (Cond.static Lib.MathLoose.min_long.x).before args s = true) (hinit : (Cond.initialized "java/lang/Math").before args s = true)
    (hcode : (Cond.code Lib.MathLoose.min_long.x Lib.MathLoose.min_long.code 4 (some .long)).before args s = true)
    {g : JFrame} (hg : g.method = m) (hsize : g.locals.size = c.maxLocals) {a b : Int64} {rest : List Value} (hstack : g.stack = .long b :: .long a :: rest) (hdg : decode c.code g.pc = .ok (.invokestatic index, 3))
    (hframes : 1 ≤ R.frames) (hlocals : 2 * g.monitorRoom + (rest.map fun v => v.category).sum + 15 ≤ R.locals) (hcells : cells ≤ R.cells) (hslots : slots ≤ R.slots) :
    ∃ vm', Stand p l e R s m args below meth c (T.setVm vm') locs cells slots ∧
      ∀ target, Steps p.tables e below ((T.setVm vm').setTop { g with pc := g.pc + 3, stack := .long (if b < a then b else a) :: rest }) target → Steps p.tables e below (T.setTop g) target := by
  obtain ⟨v, T', X', ⟨first, t, hpost⟩, hstep⟩ := X.staticByContractV hexec hown hlink hstat hinit hcode (by decide)
    (Lib.MathLoose.min_long l)
    rfl rfl rfl rfl
    (fun args' first o s₂ h => by
      simp only [Lib.MathLoose.min_long.spec] at h
      cases o with
      | returned r => exact ⟨r, rfl⟩
      | threw y =>
        exfalso
        revert h
        simp only [Cond.after, Cond.holds, Cond.value]
        (repeat' split) <;> simp_all)
    hg hsize (argsL := [.long a, .long b]) (rest := rest)
    (fun sig hs => by
      have h : parseMethodDescriptor "(JJ)J" = some { parameters := [.long, .long], returnType := some .long } := by decide +kernel
      rw [show Lib.MathLoose.min_long.x.desc = "(JJ)J" from rfl, h] at hs
      rw [← Option.some.inj hs]; rfl)
    hstack hdg
    (fun vm' hW => by
      simp only [Lib.MathLoose.min_long.spec, Cond.before_and, Bool.and_eq_true]
      refine ⟨?_, rfl, rfl, rfl⟩
      have q := hcode
      rw [← Cond.code_setVm hW.alike] at q
      simp only [Cond.before, Cond.holds, Cond.value, State.methodNamed?, State.vm_setVm] at q ⊢
      exact q)
    (by show 0 + 1 ≤ R.frames; omega) (by show 2 * g.monitorRoom + (rest.map fun v => v.category).sum + (4 + 11) + 0 ≤ R.locals; omega) (by show cells + 0 ≤ R.cells; omega) (by show slots + 0 ≤ R.slots; omega)
  refine ⟨T', X', fun target h => hstep target ?_⟩
  have hv : v = some (.long (if b < a then b else a)) := by
    by_cases h1 : b < a
    · rcases v with _ | w
      · simp [Lib.MathLoose.min_long.spec, Cond.after, Cond.holds, Cond.value, Term.eval, h1] at hpost
      · cases w <;> simp [Lib.MathLoose.min_long.spec, Cond.after, Cond.holds, Cond.value, Term.eval, h1] at hpost ⊢
        first | exact hpost | exact Classical.byContradiction (fun e => by simp [e] at hpost)
    · by_cases h2 : a = b
      · subst h2
        rcases v with _ | w
        · simp [Lib.MathLoose.min_long.spec, Cond.after, Cond.holds, Cond.value, Term.eval] at hpost
        · cases w <;> simp [Lib.MathLoose.min_long.spec, Cond.after, Cond.holds, Cond.value, Term.eval] at hpost ⊢
          first | exact hpost | exact Classical.byContradiction (fun e => by simp [e] at hpost)
      · rcases v with _ | w
        · simp [Lib.MathLoose.min_long.spec, Cond.after, Cond.holds, Cond.value, Term.eval, h1, h2] at hpost
        · cases w <;> simp [Lib.MathLoose.min_long.spec, Cond.after, Cond.holds, Cond.value, Term.eval, h1, h2] at hpost ⊢
          first | exact hpost | exact Classical.byContradiction (fun e => by simp [e] at hpost)
  rw [hv]
  exact h
end VM_min_long
section XMM
variable {G : GG} {d : Nat} {M : MM} {pc pc2 : Nat} {lv lv2 : List (Nat × Value)} {st : List Value} {h : HP} {Q : Option Value → HP → Prop}
theorem x_mmax {i : Nat} {x y : Int32} (hw : Cond.methodLink M.1.cls i Lib.Math.max.name ∈ tb) (hd1 : 1 ≤ d) (hcat : (st.map fun v => v.category).sum ≤ 8) (hd : decode M.2.1 pc = .ok (.invokestatic i, 3)) (hp : pc + 3 = pc2) (kx : Ex G d M pc2 lv (.int (mxI x y) :: st) h Q) : Ex G d M pc lv (.int y :: .int x :: st) h Q := by
  subst hp
  obtain ⟨r, h2, q1, q2, q4⟩ := kx
  refine ⟨r, h2, q1, q2, ?_⟩
  intro p l e R s m args below meth c dC dI dA QF z u hA hd1' hd2 hz hu hc hs hr H locs ls hC hl
  have z1 := q2.1
  have z2 := q2.2.1
  have kk := q4 p l e R s m args below meth c dC dI dA QF z u hA hd1' hd2 hz hu hc hs hr H locs ls hC hl
  obtain ⟨hx, hb, hml, -, hown, hts, -, -, hKX, -⟩ := id hA
  exact va_mmax hx hb (hml.trans hl.1.symm) hown (hts _ hw) (hts _ tb_mxs) (hts _ tb_mi) (hts _ tb_mxc) (by omega) (by omega) (by omega) (by omega) hd kk
theorem x_mmin {i : Nat} {x y : Int32} (hw : Cond.methodLink M.1.cls i Lib.Math.min.name ∈ tb) (hd1 : 1 ≤ d) (hcat : (st.map fun v => v.category).sum ≤ 8) (hd : decode M.2.1 pc = .ok (.invokestatic i, 3)) (hp : pc + 3 = pc2) (kx : Ex G d M pc2 lv (.int (mnI x y) :: st) h Q) : Ex G d M pc lv (.int y :: .int x :: st) h Q := by
  subst hp
  obtain ⟨r, h2, q1, q2, q4⟩ := kx
  refine ⟨r, h2, q1, q2, ?_⟩
  intro p l e R s m args below meth c dC dI dA QF z u hA hd1' hd2 hz hu hc hs hr H locs ls hC hl
  have z1 := q2.1
  have z2 := q2.2.1
  have kk := q4 p l e R s m args below meth c dC dI dA QF z u hA hd1' hd2 hz hu hc hs hr H locs ls hC hl
  obtain ⟨hx, hb, hml, -, hown, hts, -, -, hKX, -⟩ := id hA
  exact va_mmin hx hb (hml.trans hl.1.symm) hown (hts _ hw) (hts _ tb_mns) (hts _ tb_mi) (hts _ tb_mnc) (by omega) (by omega) (by omega) (by omega) hd kk
theorem x_lmax {i : Nat} {x y : Int64} (hw : Cond.methodLink M.1.cls i Lib.MathLoose.max_long.x ∈ tb) (hd1 : 1 ≤ d) (hcat : (st.map fun v => v.category).sum ≤ 8) (hd : decode M.2.1 pc = .ok (.invokestatic i, 3)) (hp : pc + 3 = pc2) (kx : Ex G d M pc2 lv (.long (mxL x y) :: st) h Q) : Ex G d M pc lv (.long y :: .long x :: st) h Q := by
  subst hp
  obtain ⟨r, h2, q1, q2, q4⟩ := kx
  refine ⟨r, h2, q1, q2, ?_⟩
  intro p l e R s m args below meth c dC dI dA QF z u hA hd1' hd2 hz hu hc hs hr H locs ls hC hl
  have z1 := q2.1
  have z2 := q2.2.1
  have kk := q4 p l e R s m args below meth c dC dI dA QF z u hA hd1' hd2 hz hu hc hs hr H locs ls hC hl
  obtain ⟨hx, hb, hml, -, hown, hts, -, -, hKX, -⟩ := id hA
  intro T hT X
  obtain ⟨vm', X', stp⟩ := st_max_long X hx hown (hts _ hw) (hts _ tb_lxs) (hts _ tb_mi) (hts _ tb_lxc) (g := F0 m pc ls (.long y :: .long x :: st)) rfl (hl.1.trans hml.symm) (a := x) (b := y) (rest := st) rfl (by rw [hb]; exact hd) (by omega) (by show 2 * 0 + _ + 15 ≤ _; omega) (by omega) (by omega)
  obtain ⟨t, a1, b1⟩ := kk (T.setVm vm') hT X'
  exact ⟨t, stp t a1, b1⟩
theorem x_lmin {i : Nat} {x y : Int64} (hw : Cond.methodLink M.1.cls i Lib.MathLoose.min_long.x ∈ tb) (hd1 : 1 ≤ d) (hcat : (st.map fun v => v.category).sum ≤ 8) (hd : decode M.2.1 pc = .ok (.invokestatic i, 3)) (hp : pc + 3 = pc2) (kx : Ex G d M pc2 lv (.long (mnL x y) :: st) h Q) : Ex G d M pc lv (.long y :: .long x :: st) h Q := by
  subst hp
  obtain ⟨r, h2, q1, q2, q4⟩ := kx
  refine ⟨r, h2, q1, q2, ?_⟩
  intro p l e R s m args below meth c dC dI dA QF z u hA hd1' hd2 hz hu hc hs hr H locs ls hC hl
  have z1 := q2.1
  have z2 := q2.2.1
  have kk := q4 p l e R s m args below meth c dC dI dA QF z u hA hd1' hd2 hz hu hc hs hr H locs ls hC hl
  obtain ⟨hx, hb, hml, -, hown, hts, -, -, hKX, -⟩ := id hA
  intro T hT X
  obtain ⟨vm', X', stp⟩ := st_min_long X hx hown (hts _ hw) (hts _ tb_lns) (hts _ tb_mi) (hts _ tb_lnc) (g := F0 m pc ls (.long y :: .long x :: st)) rfl (hl.1.trans hml.symm) (a := x) (b := y) (rest := st) rfl (by rw [hb]; exact hd) (by omega) (by show 2 * 0 + _ + 15 ≤ _; omega) (by omega) (by omega)
  obtain ⟨t, a1, b1⟩ := kk (T.setVm vm') hT X'
  exact ⟨t, stp t a1, b1⟩
end XMM
