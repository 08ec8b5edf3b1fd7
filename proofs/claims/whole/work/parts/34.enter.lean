def R_law : String := "RoundAnothersLaw"
def lw_P (b : Addr) (xs : List Int32) (args : Array Value) (s : State) : Prop := args = #[.ref b] ∧ s.IntsAt b xs ∧ xs.length ≤ 4608 ∧ (Jvm.Cond.and given_1 narrow_1).before args s = true
def lw_Q (_ : Array Value) (s : State) (o : Outcome) (t : State) : Prop := o = .returned (some (.int 1)) ∧ Framed s o t [] 600000 7302250
def lw_Z (below : List Frame) (a : Array Value) (s : State) : State → Prop := fun t => ∃ o, t.status = .running ∧ Ended t below o ∧ lw_Q a s o t
/-- the law's own end, with 1 on the stack, nothing written that was there before, its room as the claim has it -/
theorem lw_ret {p : Program} {l : Launch} {e : Env} {s : State} {m : MethodId} {below : List Frame} {meth : Method} {c : Code} {b : Nat} (hx : p.tables.exec = Jvm.exec) (hb : c.code = code) (hr : meth.sig.returnType = ret) (hlocks : meth.locks = false) {pc : Nat} {H : Heap} {ls : Array Slot} (hdg : decode code pc = .ok (.ireturn, 1)) : W p l e room_1 s m #[Value.ref b] below meth c H [] 600000 7302250 (lw_Z below #[Value.ref b] s) (F0 m pc ls [.int 1]) := by
  intro T hT X
  obtain ⟨fs, hret, hrun, hended, hW, hframe⟩ := X.leave (v := some (.int 1)) (hlocks := hlocks) (fun h => by rw [hr] at h; cases h)
  have hmeth' : T.vm.method? m = some meth := X.method'
  refine ⟨T.setFrames fs, ?_, .returned (some (.int 1)), hrun, hended, rfl, ⟨_, rfl⟩, hW, hframe⟩
  jvm_step X.here [X.here.top, hx, hb, hdg, hmeth', hr, ret, narrow_b1]
  (try refine ⟨rfl, ?_⟩); (try refine ⟨rfl, ?_⟩)
  first | (intro acts; rw [hret _ acts rfl rfl rfl]) | rw [hret _ _ rfl rfl rfl]
  exact Steps.refl _
/-- what holds at the law's entry: the machine, the code, the tables' words (any of lw_tbl by 'hts w (by decide +kernel)'), the script of L ints xs at the cell b, what the Statement gives of the start (any of its parts by flat_of_before) -/
def lw_At (p : Program) (s : State) (m : MethodId) (meth : Method) (c : Code) (b L : Nat) (xs : Nat → Int32) : Prop :=
  p.tables.exec = Jvm.exec ∧ c.code = code ∧ meth.sig.returnType = ret ∧ c.maxLocals = 4 ∧ s.vm.findClass R_law = some m.cls ∧ (∀ w ∈ lw_tbl, w.before #[Value.ref b] s = true) ∧ va_X b L xs s s.heap ∧ b < s.heap.size ∧ meth.locks = false ∧ (Jvm.Cond.and given_1 narrow_1).before #[Value.ref b] s = true
-- ===== YOUR PART BEGINS =====
/-- THE LAW, from its entry, out of Ex -/
theorem start_W (main : ∀ (G : GG) (h : HP), G.1 = hZ h → G.2.2.1 ≤ 4608 → Ex G 60 mL_law 0 [(0, .ref (G.2.1 3))] [] h (fun r h2 => r = some (.int 1) ∧ hZ h2 ≤ hZ h + 600000 ∧ hU h2 ≤ hU h + 7302250))
    {p : Program} {e : Env} {s : State} {m : MethodId} {below : List Frame} {meth : Method} {c : Code} (l : Launch) {b L : Nat} {xs : Nat → Int32} (hL : L ≤ 4608) (C0 : lw_At p s m meth c b L xs) : W p l e room_1 s m #[Value.ref b] below meth c s.heap [] 0 0 (lw_Z below #[Value.ref b] s) (entryFrame m ([Value.ref b] : List Value).toArray 4) := by
  obtain ⟨hx, hb, hr, hml, hown, hts, hX, hbl, hlocks, hgv⟩ := id C0
  obtain ⟨dC, dI, dA, hKX⟩ := start_KX hts
  obtain ⟨E, hE, hSX⟩ := start_SX hts hX hbl hgv
  have htb : ∀ w ∈ tb, w.before #[Value.ref b] s = true := fun w hw => hts w (tb_lw w hw)
  let h0 : HP := (fun _ _ => 0, fun _ _ => 0, fun _ _ => none, fun _ => 0, fun _ => 0, s.heap.size, 0)
  obtain ⟨r, h2, ⟨rfl, c1, c2⟩, qk, q4⟩ := main (s.heap.size, E, L, xs) h0 rfl hL
  have hA : AX (s.heap.size, E, L, xs) mL_law p s m #[Value.ref b] meth c dC dI dA := ⟨hx, hb, hml, hr, hown, htb, hlocks, fun q => absurd q (by decide), hKX, hSX⟩
  have hC : CU (s.heap.size, E, L, xs) dC dI dA s h0 s.heap [] := ⟨rfl, fun a a1 a2 => absurd a2 (Nat.not_lt.mpr a1), va_S.rf⟩
  have hl := lv_entry ([.ref b]) (n := 4) (Nat.le_of_ble_eq_true rfl)
  rw [lg_entry_eq]
  have hl' : lv_has ((lg_sl [Value.ref b] ++ List.replicate (4 - (lg_sl [Value.ref b]).length) Slot.unset).toArray) 4 [(0, .ref (E 3))] := by rw [hE]; exact hl
  have e1 : hZ h0 = s.heap.size := rfl
  have e2 : hU h0 = 0 := rfl
  have w := q4 p l e room_1 s m #[Value.ref b] below meth c dC dI dA (lw_Z below #[Value.ref b] s) (hZ h0) (hU h0) hA (by decide) (by decide) (Nat.le_refl _) (Nat.le_refl _) (by show hZ h2 - hZ h0 ≤ 600000; omega) (by show hU h2 - hU h0 ≤ 7302250; omega) ?_ s.heap [] _ hC hl'
  · exact W.cs (by omega) (by omega) w
  · intro H locs ls pc2 st2 hC2 hR
    have hf : ∀ q ∈ locs, s.heap.size ≤ q.base := hC2.2.2.2.2
    rcases hR with ⟨v, ty, g1, g2, g3, rfl, hd⟩ | ⟨v, g1, g3, rfl, hd⟩ | ⟨v, rt, g1, g2, g3, g4, rfl, hd⟩ | ⟨g1, g3, rfl, hd⟩
    · cases g3
      refine va_forget hf ?_
      refine W.widen (k := 600000) (n := 7302250) (by omega) (by omega) ?_
      exact lw_ret hx hb hr hlocks hd
    · cases g1
    · cases g1
      rcases g2 with ⟨n, q⟩ | ⟨t, q⟩ <;> cases q
    · cases g1
