/-! ===== rules: fields, arrays, new cells ===== -/
/-- a cell of a kind stands at an address -/
def Kd (G : GG) (h : HP) (a κ : Nat) : Prop := hK h a = κ ∧ G.1 ≤ a ∧ a < hZ h
theorem Kd.up {G : GG} {h h2 : HP} {a κ : Nat} (k : Kd G h a κ) (p : KP h h2) : Kd G h2 a κ := ⟨(p.2.2 a k.2.2).1.trans k.1, k.2.1, Nat.lt_of_lt_of_le k.2.2 p.1⟩
theorem Kd.len {G : GG} {h h2 : HP} {a κ : Nat} (k : Kd G h a κ) (p : KP h h2) : hN h2 a = hN h a := (p.2.2 a k.2.2).2
section XC
variable {G : GG} {d : Nat} {M : MM} {pc pc2 : Nat} {lv : List (Nat × Value)} {st : List Value} {h : HP} {Q : Option Value → HP → Prop}
variable {dC : Nat → ClassId} {dI : Nat → Nat → Nat} {dA : Nat → ClassId} {s : State} {H H1 : Heap} {locs : List Loc}
theorem cu_obj {a κ : Nat} (hC : CU G dC dI dA s h H locs) (ha : Kd G h a κ) (hκ : κ < 13) : t_OB a (dC κ) (kN κ) (dI κ) H (fun k => fv h a k (kTy κ k)) := by
  obtain ⟨rfl, h2, h3⟩ := ha
  rcases hC.2.1 a h2 h3 with ⟨-, q⟩ | ⟨q, -⟩
  · exact q
  · omega
theorem cu_arr {a κ : Nat} (hC : CU G dC dI dA s h H locs) (ha : Kd G h a κ) (hκ : 13 ≤ κ) : κ < 21 ∧ hN h a < 2 ^ 31 ∧ H[a]? = some (arrV (dA κ) (hN h a) (fun j => fv h a j (aTy κ))) := by
  obtain ⟨rfl, h2, h3⟩ := ha
  rcases hC.2.1 a h2 h3 with ⟨q, -⟩ | ⟨-, q1, q2, q3⟩
  · omega
  · exact ⟨q1, q2, q3⟩
theorem cu_set {a i : Nat} {h1 : HP} (hC : CU G dC dI dA s h H locs) (h2 : G.1 ≤ a) (ez : hZ h1 = hZ h) (eH : H1.size = H.size) (oq : ∀ q, q ≠ a → H1[q]? = H[q]?) (ha : at1 dC dI dA h1 a H1)
    (e1 : ∀ b, b ≠ a → ∀ k, hI h1 b k = hI h b k) (e2 : ∀ b, b ≠ a → ∀ k, hL h1 b k = hL h b k) (e3 : ∀ b, b ≠ a → ∀ k, hR h1 b k = hR h b k) (e4 : ∀ b, hK h1 b = hK h b) (e5 : ∀ b, hN h1 b = hN h b) : CU G dC dI dA s h1 H1 (locs ++ [⟨a, i⟩]) := by
  refine ⟨by rw [eH, ez]; exact hC.1, fun b hb1 hb2 => ?_, hC.2.2.put eH oq h2⟩
  by_cases hb : b = a
  · rw [hb]; exact ha
  · rw [ez] at hb2
    exact (hC.2.1 b hb1 hb2).kept (oq b hb) (e1 b hb) (e2 b hb) (e3 b hb) (e4 b) (e5 b)
theorem x_get {κ k i a : Nat} {v : Value} (hw : Cond.fieldLink M.1.cls i (kC κ) (kT κ k).2.1 (kT κ k).2.2.1 ∈ tb) (hκ : κ < 13) (hk : k < kN κ) (ha : Kd G h a κ) (hv : fv h a k (kTy κ k) = v) (hd : decode M.2.1 pc = .ok (.getfield i, 3)) (hp : pc + 3 = pc2) (kx : Ex G d M pc2 lv (v :: st) h Q) : Ex G d M pc lv (.ref a :: st) h Q := by
  subst hp
  refine ex_step (fun p l e R s m args below meth c dC dI dA QF cells slots H locs ls hA hC hl kk => ?_) kx
  obtain ⟨cell, q1, q2, q3, q4⟩ := cu_obj hC ha hκ
  obtain ⟨hx, hb, -, -, hown, hts, -, -, hKX, -⟩ := hA
  obtain ⟨hS, hfc, kC', hkC, hkind⟩ := hKX.1 κ hκ
  obtain ⟨cf, kf, fi, f, hi, hsl⟩ := hS k hk
  have hst := (u_facts hfc hkC (u_lays hts (k_in κ hκ) hk) hi).1
  rw [k_own κ hκ k hk] at hi
  refine W.getf hx hb hown (hts _ hw) hi hst q1 (by rw [q3]; exact fun h => by cases h) (v := v) ?_ rfl rfl hd (kk ls hl)
  rw [hsl, q4 k hk, ← hv]
/-- what a put leaves -/
theorem cu_put {κ k a : Nat} {v : Value} {h1 : HP} {cell : Cell} {f : Field} {args : Array Value} (hts : ∀ w ∈ tb, w.before args s = true) (hKX : KX dC dI dA s) (hκ : κ < 13) (hk : k < kN κ) (hC : CU G dC dI dA s h H locs) (ha : Kd G h a κ)
    (q2 : cell.cls = dC κ) (q3 : cell.vm = .none) (q4 : ∀ j, j < kN κ → cell.slots[dI κ j]? = some (fv h a j (kTy κ j))) (eH : H1.size = H.size) (oq : ∀ q, q ≠ a → H1[q]? = H[q]?) (he : H1[a]? = some (cell.setSlot (dI κ k) v))
    (ez : hZ h1 = hZ h) (e1 : ∀ b, b ≠ a → ∀ j, hI h1 b j = hI h b j) (e2 : ∀ b, b ≠ a → ∀ j, hL h1 b j = hL h b j) (e3 : ∀ b, b ≠ a → ∀ j, hR h1 b j = hR h b j) (e4 : ∀ b, hK h1 b = hK h b) (e5 : ∀ b, hN h1 b = hN h b)
    (f1 : ∀ j, j ≠ k → ∀ ty, fv h1 a j ty = fv h a j ty) (f2 : fv h1 a k (kTy κ k) = v) : CU G dC dI dA s h1 H1 (locs ++ [⟨a, dI κ k⟩]) := by
  obtain ⟨rfl, h2, h3⟩ := ha
  refine cu_set hC h2 ez eH oq ?_ e1 e2 e3 e4 e5
  have hap : ∀ x y, x < kN (hK h a) → y < kN (hK h a) → x ≠ y → dI (hK h a) x ≠ dI (hK h a) y := by
    intro x y hx hy hne
    obtain ⟨hS, -⟩ := hKX.1 _ hκ
    obtain ⟨_, _, _, fa, hia, ea⟩ := hS x hx
    obtain ⟨_, _, _, fb, hib, eb⟩ := hS y hy
    rw [← ea, ← eb]
    refine u_apart (u_lays hts (k_in _ hκ) hx) (u_lays hts (k_in _ hκ) hy) hia hib ?_
    rw [(State.fieldFound?_type hia (k_ty _ hκ x hx)).1, (State.fieldFound?_type hib (k_ty _ hκ y hy)).1]
    exact k_nm _ hκ x hx y hy hne
  refine Or.inl ⟨by rw [e4]; exact hκ, ?_⟩
  rw [e4]
  refine t_OB.to (V := updV (fun j => fv h a j (kTy (hK h a) j)) k v) ⟨_, he, q2, q3, t_set q4 hap hk v⟩ (fun j _ => ?_)
  by_cases hj : j = k
  · subst hj; rw [f2]; simp [updV]
  · rw [f1 j hj]; simp [updV, hj]
theorem x_put0 {κ k i a : Nat} {v : Value} {h1 : HP} (hw : Cond.fieldLink M.1.cls i (kC κ) (kT κ k).2.1 (kT κ k).2.2.1 ∈ tb) (hκ : κ < 13) (hk : k < kN κ) (hf : (kT κ k).2.2.2 = false ∨ (M.1.name = "<init>" ∧ M.1.cls = kC κ)) (ha : Kd G h a κ) (hn : narrow (kTy κ k) v = v) (hfit : fits (kTy κ k) v = true)
    (ez : hZ h1 = hZ h) (eu : hU h1 = hU h) (e1 : ∀ b, b ≠ a → ∀ j, hI h1 b j = hI h b j) (e2 : ∀ b, b ≠ a → ∀ j, hL h1 b j = hL h b j) (e3 : ∀ b, b ≠ a → ∀ j, hR h1 b j = hR h b j) (e4 : ∀ b, hK h1 b = hK h b) (e5 : ∀ b, hN h1 b = hN h b)
    (f1 : ∀ j, j ≠ k → ∀ ty, fv h1 a j ty = fv h a j ty) (f2 : fv h1 a k (kTy κ k) = v)
    (hd : decode M.2.1 pc = .ok (.putfield i, 3)) (hp : pc + 3 = pc2) (kx : Ex G d M pc2 lv st h1 Q) : Ex G d M pc lv (v :: .ref a :: st) h Q := by
  subst hp
  refine ex_put ez eu e4 e5 (fun p l e R s m args below meth c dC dI dA QF cells slots H locs ls hA hC hl kk => ?_) kx
  obtain ⟨cell, q1, q2, q3, q4⟩ := cu_obj hC ha hκ
  obtain ⟨hx, hb, -, -, hown, hts, -, hname, hKX, -⟩ := hA
  obtain ⟨hS, hfc, kC', hkC, hkind⟩ := hKX.1 κ hκ
  obtain ⟨cf, kf, fi, f, hi, hsl⟩ := hS k hk
  have hlays := u_lays hts (k_in κ hκ) hk
  have hst := (u_facts hfc hkC hlays hi).1
  have hlay := hts _ (k_in κ hκ _ (u_in_lay hk))
  unfold u_lay at hlay
  have hi0 := hi
  rw [k_own κ hκ k hk] at hi
  cases hfin : (kT κ k).2.2.2 with
  | false =>
    rw [if_neg (by rw [hfin]; decide)] at hlay
    have h6 := u_store hfc hkC hkind hlay hi0 (k_ty κ hκ k hk) hn hfit
    refine W.putK hx hb (f := f) ⟨hown, hts _ hw, ⟨_, _, _, hi⟩, hst⟩ (by rw [q2]; exact h6) q1 q3 (by rw [hsl]; exact k2_hasslot (q4 k hk)) rfl rfl hd fun H' g1 g2 g3 => ?_
    rw [hsl] at g1 ⊢
    exact kk H' _ (cu_put hts hKX hκ hk hC ha q2 q3 q4 g2 g3 g1 ez e1 e2 e3 e4 e5 f1 f2 (f := f))
  | true =>
    rw [if_pos hfin] at hlay
    have hmm : M.1.name = "<init>" ∧ M.1.cls = kC κ := by
      rcases hf with hf | hf
      · rw [hf] at hfin; cases hfin
      · exact hf
    have hcf : m.cls = cf := by
      obtain ⟨_, _, c', _, _, _, -, -, hf', -, -, -, hown2, -⟩ := Cond.laysFinal_spec hlay
      have e1 : c' = cf := by have := hi0.symm.trans hf'; simp at this; exact this.1.symm
      rw [k_own κ hκ k hk, ← hmm.2] at hown2
      rw [← e1]; exact Option.some.inj (hown.symm.trans hown2)
    have h6 := u_fits hfc hkC hkind hlays hi0 (k_ty κ hκ k hk) hn hfit
    refine W.putFinK hx hb hown (hts _ hw) hi hst hcf (hname hmm.1) (by rw [q2]; exact h6) q1 q3 (by rw [hsl]; exact k2_hasslot (q4 k hk)) rfl rfl hd fun H' g1 g2 g3 => ?_
    rw [hsl] at g1 ⊢
    exact kk H' _ (cu_put hts hKX hκ hk hC ha q2 q3 q4 g2 g3 g1 ez e1 e2 e3 e4 e5 f1 f2 (f := f))
theorem fv_sI_ne (h : HP) (a k j : Nat) (v : Int32) (hj : j ≠ k) (ty : FieldType) : fv (sI h a k v) a j ty = fv h a j ty := fv_eq (h := h) ((hI_sI h a k v a j).trans (if_neg (fun q => hj q.2))) rfl rfl ty
theorem fv_sL_ne (h : HP) (a k j : Nat) (v : Int64) (hj : j ≠ k) (ty : FieldType) : fv (sL h a k v) a j ty = fv h a j ty := fv_eq (h := h) (h' := sL h a k v) rfl ((hL_sL h a k v a j).trans (if_neg (fun q => hj q.2))) rfl ty
theorem fv_sR_ne (h : HP) (a k j : Nat) (v : Option Nat) (hj : j ≠ k) (ty : FieldType) : fv (sR h a k v) a j ty = fv h a j ty := fv_eq (h := h) (h' := sR h a k v) rfl rfl ((hR_sR h a k v a j).trans (if_neg (fun q => hj q.2))) ty
theorem x_putI {κ k i a : Nat} {v : Int32} (hw : Cond.fieldLink M.1.cls i (kC κ) (kT κ k).2.1 (kT κ k).2.2.1 ∈ tb) (hκ : κ < 13) (hk : k < kN κ) (hf : (kT κ k).2.2.2 = false ∨ (M.1.name = "<init>" ∧ M.1.cls = kC κ)) (ht : kTy κ k = .int) (ha : Kd G h a κ)
    (hd : decode M.2.1 pc = .ok (.putfield i, 3)) (hp : pc + 3 = pc2) (kx : Ex G d M pc2 lv st (sI h a k v) Q) : Ex G d M pc lv (.int v :: .ref a :: st) h Q := by
  refine x_put0 (h1 := sI h a k v) hw hκ hk hf ha (by rw [ht]; rfl) (by rw [ht]; rfl) rfl rfl (fun b hb j => ?_) (fun _ _ _ => rfl) (fun _ _ _ => rfl) (fun _ => rfl) (fun _ => rfl) (fun j hj ty => fv_sI_ne h a k j v hj ty) ?_ hd hp kx
  · rw [hI_sI, if_neg (fun q => hb q.1)]
  · rw [ht]; show Value.int _ = _; rw [hI_sI, if_pos ⟨rfl, rfl⟩]
theorem x_putZ {κ k i a : Nat} {v : Int32} (hv : v = 0 ∨ v = 1) (hw : Cond.fieldLink M.1.cls i (kC κ) (kT κ k).2.1 (kT κ k).2.2.1 ∈ tb) (hκ : κ < 13) (hk : k < kN κ) (hf : (kT κ k).2.2.2 = false ∨ (M.1.name = "<init>" ∧ M.1.cls = kC κ)) (ht : kTy κ k = .boolean) (ha : Kd G h a κ)
    (hd : decode M.2.1 pc = .ok (.putfield i, 3)) (hp : pc + 3 = pc2) (kx : Ex G d M pc2 lv st (sI h a k v) Q) : Ex G d M pc lv (.int v :: .ref a :: st) h Q := by
  refine x_put0 (h1 := sI h a k v) hw hκ hk hf ha (by rw [ht]; rcases hv with rfl | rfl <;> rfl) (by rw [ht]; rcases hv with rfl | rfl <;> rfl) rfl rfl (fun b hb j => ?_) (fun _ _ _ => rfl) (fun _ _ _ => rfl) (fun _ => rfl) (fun _ => rfl) (fun j hj ty => fv_sI_ne h a k j v hj ty) ?_ hd hp kx
  · rw [hI_sI, if_neg (fun q => hb q.1)]
  · rw [ht]; show Value.int _ = _; rw [hI_sI, if_pos ⟨rfl, rfl⟩]
theorem x_putL {κ k i a : Nat} {v : Int64} (hw : Cond.fieldLink M.1.cls i (kC κ) (kT κ k).2.1 (kT κ k).2.2.1 ∈ tb) (hκ : κ < 13) (hk : k < kN κ) (hf : (kT κ k).2.2.2 = false ∨ (M.1.name = "<init>" ∧ M.1.cls = kC κ)) (ht : kTy κ k = .long) (ha : Kd G h a κ)
    (hd : decode M.2.1 pc = .ok (.putfield i, 3)) (hp : pc + 3 = pc2) (kx : Ex G d M pc2 lv st (sL h a k v) Q) : Ex G d M pc lv (.long v :: .ref a :: st) h Q := by
  refine x_put0 (h1 := sL h a k v) hw hκ hk hf ha (by rw [ht]; rfl) (by rw [ht]; rfl) rfl rfl (fun _ _ _ => rfl) (fun b hb j => ?_) (fun _ _ _ => rfl) (fun _ => rfl) (fun _ => rfl) (fun j hj ty => fv_sL_ne h a k j v hj ty) ?_ hd hp kx
  · rw [hL_sL, if_neg (fun q => hb q.1)]
  · rw [ht]; show Value.long _ = _; rw [hL_sL, if_pos ⟨rfl, rfl⟩]
/-- a type of references -/
def isRt (ty : FieldType) : Prop := (∃ n, ty = .object n) ∨ ∃ t, ty = .array t
theorem isRt_o (n : String) : isRt (.object n) := Or.inl ⟨n, rfl⟩
theorem isRt_a (t : FieldType) : isRt (.array t) := Or.inr ⟨t, rfl⟩
theorem fv_rt {ty : FieldType} (ht : isRt ty) (h : HP) (a k : Nat) : fv h a k ty = va_rf (hR h a k) := by rcases ht with ⟨n, rfl⟩ | ⟨t, rfl⟩ <;> rfl
theorem x_putR {κ k i a : Nat} {v : Option Nat} (hw : Cond.fieldLink M.1.cls i (kC κ) (kT κ k).2.1 (kT κ k).2.2.1 ∈ tb) (hκ : κ < 13) (hk : k < kN κ) (hf : (kT κ k).2.2.2 = false ∨ (M.1.name = "<init>" ∧ M.1.cls = kC κ)) (ht : isRt (kTy κ k)) (ha : Kd G h a κ)
    (hd : decode M.2.1 pc = .ok (.putfield i, 3)) (hp : pc + 3 = pc2) (kx : Ex G d M pc2 lv st (sR h a k v) Q) : Ex G d M pc lv (va_rf v :: .ref a :: st) h Q := by
  refine x_put0 (h1 := sR h a k v) hw hκ hk hf ha ?_ ?_ rfl rfl (fun _ _ _ => rfl) (fun _ _ _ => rfl) (fun b hb j => ?_) (fun _ => rfl) (fun _ => rfl) (fun j hj ty => fv_sR_ne h a k j v hj ty) ?_ hd hp kx
  · rcases ht with ⟨n, e⟩ | ⟨t, e⟩ <;> rw [e] <;> cases v <;> rfl
  · rcases ht with ⟨n, e⟩ | ⟨t, e⟩ <;> rw [e] <;> cases v <;> rfl
  · rw [hR_sR, if_neg (fun q => hb q.1)]
  · rw [fv_rt ht, hR_sR, if_pos ⟨rfl, rfl⟩]
end XC
