/-! ===== rules: arrays ===== -/
section XA
variable {G : GG} {d : Nat} {M : MM} {pc pc2 : Nat} {lv : List (Nat × Value)} {st : List Value} {h : HP} {Q : Option Value → HP → Prop}
variable {dC : Nat → ClassId} {dI : Nat → Nat → Nat} {dA : Nat → ClassId} {s : State} {H H1 : Heap} {locs : List Loc}
theorem arr_of {a κ : Nat} (hKX : KX dC dI dA s) (hC : CU G dC dI dA s h H locs) (ha : Kd G h a κ) (hκ : 13 ≤ κ) : ∃ cell : Cell, H[a]? = some cell ∧ s.isArrayOf cell (aTy κ) ∧ cell.vm ≠ .unknown ∧ cell.slots.size = hN h a ∧ (∀ j, j < hN h a → cell.slots[j]? = some (fv h a j (aTy κ))) ∧ cell = arrV (dA κ) (hN h a) (fun j => fv h a j (aTy κ)) := by
  obtain ⟨h1, h2, h3⟩ := cu_arr hC ha hκ
  exact ⟨_, h3, (hKX.2.1 κ hκ h1).1 _ _, (fun q => by cases q), arrV_size _ _ _, fun j hj => arrV_read _ _ hj, rfl⟩
theorem in_lt {i : Int32} {n : Nat} (hin : vp_in i n) : ¬ i < 0 ∧ i.toNatClampNeg < n := ⟨fun q => hin (Or.inl q), Nat.not_le.mp fun q => hin (Or.inr q)⟩
/-- what a store leaves -/
theorem cu_ast {κ a k : Nat} {v : Value} {h1 : HP} {cell : Cell} (hC : CU G dC dI dA s h H locs) (ha : Kd G h a κ) (hκ : 13 ≤ κ) (hc : cell = arrV (dA κ) (hN h a) (fun j => fv h a j (aTy κ))) (eH : H1.size = H.size) (oq : ∀ q, q ≠ a → H1[q]? = H[q]?) (he : H1[a]? = some (cell.setSlot k v))
    (ez : hZ h1 = hZ h) (e1 : ∀ b, b ≠ a → ∀ j, hI h1 b j = hI h b j) (e2 : ∀ b, b ≠ a → ∀ j, hL h1 b j = hL h b j) (e3 : ∀ b, b ≠ a → ∀ j, hR h1 b j = hR h b j) (e4 : ∀ b, hK h1 b = hK h b) (e5 : ∀ b, hN h1 b = hN h b)
    (f1 : ∀ j, j ≠ k → ∀ ty, fv h1 a j ty = fv h a j ty) (f2 : fv h1 a k (aTy κ) = v) : CU G dC dI dA s h1 H1 (locs ++ [⟨a, k⟩]) := by
  obtain ⟨g1, g2, -⟩ := cu_arr hC ha hκ
  obtain ⟨rfl, h2, h3⟩ := ha
  refine cu_set hC h2 ez eH oq ?_ e1 e2 e3 e4 e5
  refine Or.inr ⟨by rw [e4]; exact hκ, by rw [e4]; exact g1, by rw [e5]; exact g2, ?_⟩
  rw [e4, e5, he, hc, arrV_store]
  congr 2
  funext j
  by_cases hj : j = k
  · subst hj; rw [f2]; simp [updV]
  · rw [f1 j hj]; simp [updV, hj]
theorem x_alen {a κ : Nat} (hκ : 13 ≤ κ) (ha : Kd G h a κ) (hd : decode M.2.1 pc = .ok (.arraylength, 1)) (hp : pc + 1 = pc2) (kx : Ex G d M pc2 lv (.int (Int32.ofNat (hN h a)) :: st) h Q) : Ex G d M pc lv (.ref a :: st) h Q := by
  subst hp
  refine ex_step (fun p l e R s m args below meth c dC dI dA QF cells slots H locs ls hA hC hl kk => ?_) kx
  obtain ⟨hx, hb, -, -, -, -, -, -, hKX, -⟩ := hA
  obtain ⟨cell, q1, q2, q3, q4, -⟩ := arr_of hKX hC ha hκ
  exact W.alen hx hb q1 q2 (by rw [q4]) rfl rfl hd (kk ls hl)
theorem x_iald {a : Nat} {i : Int32} (ha : Kd G h a 14) (hin : vp_in i (hN h a)) (hd : decode M.2.1 pc = .ok (.iaload, 1)) (hp : pc + 1 = pc2) (kx : Ex G d M pc2 lv (.int (hI h a i.toNatClampNeg) :: st) h Q) : Ex G d M pc lv (.int i :: .ref a :: st) h Q := by
  subst hp
  refine ex_step (fun p l e R s m args below meth c dC dI dA QF cells slots H locs ls hA hC hl kk => ?_) kx
  obtain ⟨hx, hb, -, -, -, -, -, -, hKX, -⟩ := hA
  obtain ⟨cell, q1, q2, q3, q4, q5, -⟩ := arr_of hKX hC ha (by decide)
  exact W.iald hx hb q1 q2 q3 (by rw [q4]; exact hin) (q5 _ (in_lt hin).2) rfl rfl hd (kk ls hl)
theorem x_bald {a : Nat} {i : Int32} (ha : Kd G h a 13) (hin : vp_in i (hN h a)) (hd : decode M.2.1 pc = .ok (.baload, 1)) (hp : pc + 1 = pc2) (kx : Ex G d M pc2 lv (.int (hI h a i.toNatClampNeg) :: st) h Q) : Ex G d M pc lv (.int i :: .ref a :: st) h Q := by
  subst hp
  refine ex_step (fun p l e R s m args below meth c dC dI dA QF cells slots H locs ls hA hC hl kk => ?_) kx
  obtain ⟨hx, hb, -, -, -, -, -, -, hKX, -⟩ := hA
  obtain ⟨cell, q1, q2, q3, q4, q5, -⟩ := arr_of hKX hC ha (by decide)
  exact W.bald hx hb q1 q2 q3 (by rw [q4]; exact hin) (q5 _ (in_lt hin).2) rfl rfl hd (kk ls hl)
theorem x_zald {a : Nat} {i : Int32} (ha : Kd G h a 16) (hin : vp_in i (hN h a)) (hd : decode M.2.1 pc = .ok (.baload, 1)) (hp : pc + 1 = pc2) (kx : Ex G d M pc2 lv (.int (hI h a i.toNatClampNeg) :: st) h Q) : Ex G d M pc lv (.int i :: .ref a :: st) h Q := by
  subst hp
  refine ex_step (fun p l e R s m args below meth c dC dI dA QF cells slots H locs ls hA hC hl kk => ?_) kx
  obtain ⟨hx, hb, -, -, -, -, -, -, hKX, -⟩ := hA
  obtain ⟨cell, q1, q2, q3, q4, q5, -⟩ := arr_of hKX hC ha (by decide)
  exact W.zald hx hb q1 q2 q3 (by rw [q4]; exact hin) (q5 _ (in_lt hin).2) rfl rfl hd (kk ls hl)
theorem x_lald {a : Nat} {i : Int32} (ha : Kd G h a 15) (hin : vp_in i (hN h a)) (hd : decode M.2.1 pc = .ok (.laload, 1)) (hp : pc + 1 = pc2) (kx : Ex G d M pc2 lv (.long (hL h a i.toNatClampNeg) :: st) h Q) : Ex G d M pc lv (.int i :: .ref a :: st) h Q := by
  subst hp
  refine ex_step (fun p l e R s m args below meth c dC dI dA QF cells slots H locs ls hA hC hl kk => ?_) kx
  obtain ⟨hx, hb, -, -, -, -, -, -, hKX, -⟩ := hA
  obtain ⟨cell, q1, q2, q3, q4, q5, -⟩ := arr_of hKX hC ha (by decide)
  exact W.lald hx hb q1 q2 q3 (by rw [q4]; exact hin) (q5 _ (in_lt hin).2) rfl rfl hd (kk ls hl)
theorem aTy_rt {κ : Nat} (h1 : 17 ≤ κ) : ∃ C, aTy κ = .object C := by
  unfold aTy
  split <;> first | omega | exact ⟨_, rfl⟩
theorem x_aald {a κ : Nat} {i : Int32} (h17 : 17 ≤ κ) (ha : Kd G h a κ) (hin : vp_in i (hN h a)) (hd : decode M.2.1 pc = .ok (.aaload, 1)) (hp : pc + 1 = pc2) (kx : Ex G d M pc2 lv (va_rf (hR h a i.toNatClampNeg) :: st) h Q) : Ex G d M pc lv (.int i :: .ref a :: st) h Q := by
  subst hp
  refine ex_step (fun p l e R s m args below meth c dC dI dA QF cells slots H locs ls hA hC hl kk => ?_) kx
  obtain ⟨hx, hb, -, -, -, -, -, -, hKX, -⟩ := hA
  obtain ⟨cell, q1, q2, q3, q4, q5, -⟩ := arr_of hKX hC ha (by omega)
  obtain ⟨C, eC⟩ := aTy_rt h17
  refine W.aald hx hb q1 q2 (by rw [eC]; rfl) q3 (by rw [q4]; exact hin) (v := va_rf (hR h a i.toNatClampNeg)) ?_ rfl rfl hd (kk ls hl)
  rw [q5 _ (in_lt hin).2, eC]
  rfl
theorem x_iast {a : Nat} {i x : Int32} (ha : Kd G h a 14) (hin : vp_in i (hN h a)) (hd : decode M.2.1 pc = .ok (.iastore, 1)) (hp : pc + 1 = pc2) (kx : Ex G d M pc2 lv st (sI h a i.toNatClampNeg x) Q) : Ex G d M pc lv (.int x :: .int i :: .ref a :: st) h Q := by
  subst hp
  refine ex_put (h1 := sI h a i.toNatClampNeg x) rfl rfl (fun _ => rfl) (fun _ => rfl) (fun p l e R s m args below meth c dC dI dA QF cells slots H locs ls hA hC hl kk => ?_) kx
  obtain ⟨hx, hb, -, -, -, -, -, -, hKX, -⟩ := hA
  obtain ⟨cell, q1, q2, q3, q4, q5, q6⟩ := arr_of hKX hC ha (by decide)
  refine W.iast hx hb q1 q2 q3 (by rw [q4]; exact hin) rfl rfl hd fun H' g1 g2 g3 => ?_
  exact kk H' _ (cu_ast hC ha (by decide) q6 g2 g3 g1 rfl (fun b hb j => by rw [hI_sI, if_neg (fun q => hb q.1)]) (fun _ _ _ => rfl) (fun _ _ _ => rfl) (fun _ => rfl) (fun _ => rfl) (fun j hj ty => fv_sI_ne h a _ j x hj ty) (by show Value.int _ = _; rw [hI_sI, if_pos ⟨rfl, rfl⟩]))
theorem x_bast {a : Nat} {i x : Int32} (ha : Kd G h a 13) (hin : vp_in i (hN h a)) (hd : decode M.2.1 pc = .ok (.bastore, 1)) (hp : pc + 1 = pc2) (kx : Ex G d M pc2 lv st (sI h a i.toNatClampNeg x.toInt8.toInt32) Q) : Ex G d M pc lv (.int x :: .int i :: .ref a :: st) h Q := by
  subst hp
  refine ex_put (h1 := sI h a i.toNatClampNeg x.toInt8.toInt32) rfl rfl (fun _ => rfl) (fun _ => rfl) (fun p l e R s m args below meth c dC dI dA QF cells slots H locs ls hA hC hl kk => ?_) kx
  obtain ⟨hx, hb, -, -, -, -, -, -, hKX, -⟩ := hA
  obtain ⟨cell, q1, q2, q3, q4, q5, q6⟩ := arr_of hKX hC ha (by decide)
  refine W.bast hx hb q1 q2 q3 (by rw [q4]; exact hin) rfl rfl hd fun H' g1 g2 g3 => ?_
  exact kk H' _ (cu_ast hC ha (by decide) q6 g2 g3 g1 rfl (fun b hb j => by rw [hI_sI, if_neg (fun q => hb q.1)]) (fun _ _ _ => rfl) (fun _ _ _ => rfl) (fun _ => rfl) (fun _ => rfl) (fun j hj ty => fv_sI_ne h a _ j _ hj ty) (by show Value.int _ = _; rw [hI_sI, if_pos ⟨rfl, rfl⟩]; rfl))
theorem x_zast {a : Nat} {i x : Int32} (ha : Kd G h a 16) (hin : vp_in i (hN h a)) (hd : decode M.2.1 pc = .ok (.bastore, 1)) (hp : pc + 1 = pc2) (kx : Ex G d M pc2 lv st (sI h a i.toNatClampNeg (x &&& 1)) Q) : Ex G d M pc lv (.int x :: .int i :: .ref a :: st) h Q := by
  subst hp
  refine ex_put (h1 := sI h a i.toNatClampNeg (x &&& 1)) rfl rfl (fun _ => rfl) (fun _ => rfl) (fun p l e R s m args below meth c dC dI dA QF cells slots H locs ls hA hC hl kk => ?_) kx
  obtain ⟨hx, hb, -, -, -, -, -, -, hKX, -⟩ := hA
  obtain ⟨cell, q1, q2, q3, q4, q5, q6⟩ := arr_of hKX hC ha (by decide)
  refine W.zast hx hb q1 q2 q3 (by rw [q4]; exact hin) rfl rfl hd fun H' g1 g2 g3 => ?_
  exact kk H' _ (cu_ast hC ha (by decide) q6 g2 g3 g1 rfl (fun b hb j => by rw [hI_sI, if_neg (fun q => hb q.1)]) (fun _ _ _ => rfl) (fun _ _ _ => rfl) (fun _ => rfl) (fun _ => rfl) (fun j hj ty => fv_sI_ne h a _ j _ hj ty) (by show Value.int _ = _; rw [hI_sI, if_pos ⟨rfl, rfl⟩]; rfl))
theorem x_last {a : Nat} {i : Int32} {x : Int64} (ha : Kd G h a 15) (hin : vp_in i (hN h a)) (hd : decode M.2.1 pc = .ok (.lastore, 1)) (hp : pc + 1 = pc2) (kx : Ex G d M pc2 lv st (sL h a i.toNatClampNeg x) Q) : Ex G d M pc lv (.long x :: .int i :: .ref a :: st) h Q := by
  subst hp
  refine ex_put (h1 := sL h a i.toNatClampNeg x) rfl rfl (fun _ => rfl) (fun _ => rfl) (fun p l e R s m args below meth c dC dI dA QF cells slots H locs ls hA hC hl kk => ?_) kx
  obtain ⟨hx, hb, -, -, -, -, -, -, hKX, -⟩ := hA
  obtain ⟨cell, q1, q2, q3, q4, q5, q6⟩ := arr_of hKX hC ha (by decide)
  refine W.last hx hb q1 q2 q3 (by rw [q4]; exact hin) rfl rfl hd fun H' g1 g2 g3 => ?_
  exact kk H' _ (cu_ast hC ha (by decide) q6 g2 g3 g1 rfl (fun _ _ _ => rfl) (fun b hb j => by rw [hL_sL, if_neg (fun q => hb q.1)]) (fun _ _ _ => rfl) (fun _ => rfl) (fun _ => rfl) (fun j hj ty => fv_sL_ne h a _ j x hj ty) (by show Value.long _ = _; rw [hL_sL, if_pos ⟨rfl, rfl⟩]))
/-- kinds of the objects that the arrays of references hold -/
def elK : Nat → Nat
  | 17 => 1
  | 18 => 4
  | 19 => 6
  | _ => 9
theorem elK_ok (κ : Nat) (h1 : 17 ≤ κ) (h2 : κ < 21) : aTy κ = .object (kC (elK κ)) ∧ elK κ < 13 := by
  rcases (show κ = 17 ∨ κ = 18 ∨ κ = 19 ∨ κ = 20 by omega) with rfl | rfl | rfl | rfl <;> exact ⟨rfl, by decide⟩
theorem x_aast {a κ v : Nat} {i : Int32} (h17 : 17 ≤ κ) (ha : Kd G h a κ) (hin : vp_in i (hN h a)) (hv : Kd G h v (elK κ)) (hd : decode M.2.1 pc = .ok (.aastore, 1)) (hp : pc + 1 = pc2) (kx : Ex G d M pc2 lv st (sR h a i.toNatClampNeg (some v)) Q) : Ex G d M pc lv (.ref v :: .int i :: .ref a :: st) h Q := by
  subst hp
  refine ex_put (h1 := sR h a i.toNatClampNeg (some v)) rfl rfl (fun _ => rfl) (fun _ => rfl) (fun p l e R s m args below meth c dC dI dA QF cells slots H locs ls hA hC hl kk => ?_) kx
  obtain ⟨hx, hb, -, -, -, -, -, -, hKX, -⟩ := hA
  have hκ21 := (cu_arr hC ha (by omega)).1
  obtain ⟨eT, eK⟩ := elK_ok κ h17 hκ21
  obtain ⟨cell, q1, q2, q3, q4, q5, q6⟩ := arr_of hKX hC ha (by omega)
  obtain ⟨cv, w1, w2, w3, -⟩ := cu_obj hC hv eK
  have hRA := (hKX.2.1 κ (by omega) hκ21).2
  rw [eT] at hRA
  obtain ⟨kA, comp, r1, r2, r3, -⟩ := hRA
  obtain ⟨-, hfc, kC', hkC, hkind⟩ := hKX.1 _ eK
  have ecomp : comp = dC (elK κ) := Option.some.inj (r3.symm.trans hfc)
  subst ecomp
  refine W.aast hx hb q1 (fun q => by rw [q6]; exact fun z => by cases z) q3 (k := kA) (kv := kC') (kcomp := kC') (comp := dC (elK κ)) (t := .object (kC (elK κ))) (by rw [q6]; exact r1) r2 rfl hkC (by rw [q4]; exact in_lt hin) w1 (fun q => by rw [w3]; exact fun z => by cases z) (by rw [w2]; exact hkC) (by rw [w2]; exact va_asg _ _) rfl rfl hd fun H' g1 g2 g3 => ?_
  exact kk H' _ (cu_ast hC ha (by omega) q6 g2 g3 g1 rfl (fun _ _ _ => rfl) (fun _ _ _ => rfl) (fun b hb j => by rw [hR_sR, if_neg (fun q => hb q.1)]) (fun _ => rfl) (fun _ => rfl) (fun j hj ty => fv_sR_ne h a _ j _ hj ty) (by rw [eT]; show va_rf _ = _; rw [hR_sR, if_pos ⟨rfl, rfl⟩]; rfl))
end XA
