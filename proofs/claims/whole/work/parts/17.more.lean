/-! ===== rules in the form in which the generator uses them ===== -/
def irm (x y : Int32) : Int32 := x - x / y * y
def lrm (x y : Int64) : Int64 := x - x / y * y
theorem ne_ti {x c : Int32} (z : Int) (hc : c.toInt = z) (h : ¬ x = c) : x.toInt ≠ z := fun q => h (Int32.toInt_inj.mp (q.trans hc.symm))
section XM
variable {G : GG} {d : Nat} {M : MM} {pc pc2 : Nat} {lv lv2 : List (Nat × Value)} {st : List Value} {h : HP} {Q : Option Value → HP → Prop}
theorem y_irem {x y : Int32} (hne : ¬ y = 0) (hd : decode M.2.1 pc = .ok (.irem, 1)) (hp : pc + 1 = pc2) (k : Ex G d M pc2 lv (.int (irm x y) :: st) h Q) : Ex G d M pc lv (.int y :: .int x :: st) h Q := x_irem hne hd hp k
theorem y_lrem {x y : Int64} (hne : ¬ y = 0) (hd : decode M.2.1 pc = .ok (.lrem, 1)) (hp : pc + 1 = pc2) (k : Ex G d M pc2 lv (.long (lrm x y) :: st) h Q) : Ex G d M pc lv (.long y :: .long x :: st) h Q := x_lrem hne hd hp k
theorem y_icmp_ne {x y : Int32} {off : Int} (tgt : Nat) (hd : decode M.2.1 pc = .ok (.if_icmp .ne off, 3)) (ht : (pc : Int) + off = (tgt : Int)) (hp : pc + 3 = pc2) (kt : ¬ x = y → Ex G d M tgt lv st h Q) (kf : x = y → Ex G d M pc2 lv st h Q) : Ex G d M pc lv (.int y :: .int x :: st) h Q := x_icmp_ne tgt hd ht hp kt (fun c => kf (Classical.not_not.mp c))
theorem y_if_ne {x : Int32} {off : Int} (tgt : Nat) (hd : decode M.2.1 pc = .ok (.ifCond .ne off, 3)) (ht : (pc : Int) + off = (tgt : Int)) (hp : pc + 3 = pc2) (kt : ¬ x = 0 → Ex G d M tgt lv st h Q) (kf : x = 0 → Ex G d M pc2 lv st h Q) : Ex G d M pc lv (.int x :: st) h Q := x_if_ne tgt hd ht hp kt (fun c => kf (Classical.not_not.mp c))
theorem y_getI {κ k i a : Nat} (hw : Cond.fieldLink M.1.cls i (kC κ) (kT κ k).2.1 (kT κ k).2.2.1 ∈ tb) (hκ : κ < 13) (hk : k < kN κ) (ha : Kd G h a κ) (hv : fv h a k (kTy κ k) = .int (hI h a k)) (hd : decode M.2.1 pc = .ok (.getfield i, 3)) (hp : pc + 3 = pc2) (kx : Ex G d M pc2 lv (.int (hI h a k) :: st) h Q) : Ex G d M pc lv (.ref a :: st) h Q := x_get hw hκ hk ha hv hd hp kx
theorem y_getL {κ k i a : Nat} (hw : Cond.fieldLink M.1.cls i (kC κ) (kT κ k).2.1 (kT κ k).2.2.1 ∈ tb) (hκ : κ < 13) (hk : k < kN κ) (ha : Kd G h a κ) (hv : fv h a k (kTy κ k) = .long (hL h a k)) (hd : decode M.2.1 pc = .ok (.getfield i, 3)) (hp : pc + 3 = pc2) (kx : Ex G d M pc2 lv (.long (hL h a k) :: st) h Q) : Ex G d M pc lv (.ref a :: st) h Q := x_get hw hκ hk ha hv hd hp kx
theorem y_getR {κ k i a q : Nat} (hw : Cond.fieldLink M.1.cls i (kC κ) (kT κ k).2.1 (kT κ k).2.2.1 ∈ tb) (hκ : κ < 13) (hk : k < kN κ) (ha : Kd G h a κ) (hv : fv h a k (kTy κ k) = va_rf (hR h a k)) (hq : hR h a k = some q) (hd : decode M.2.1 pc = .ok (.getfield i, 3)) (hp : pc + 3 = pc2) (kx : Ex G d M pc2 lv (.ref q :: st) h Q) : Ex G d M pc lv (.ref a :: st) h Q := x_get hw hκ hk ha (hv.trans (by rw [hq]; rfl)) hd hp kx
theorem y_aaldR {a κ q : Nat} {i : Int32} (h17 : 17 ≤ κ) (ha : Kd G h a κ) (hin : vp_in i (hN h a)) (hq : hR h a i.toNatClampNeg = some q) (hd : decode M.2.1 pc = .ok (.aaload, 1)) (hp : pc + 1 = pc2) (kx : Ex G d M pc2 lv (.ref q :: st) h Q) : Ex G d M pc lv (.int i :: .ref a :: st) h Q := x_aald h17 ha hin hd hp (by rw [hq]; exact kx)
theorem y_aaldq {a κ : Nat} {i : Int32} (h17 : 17 ≤ κ) (ha : Kd G h a κ) (hin : vp_in i (hN h a)) (hd : decode M.2.1 pc = .ok (.aaload, 1)) (hp : pc + 1 = pc2) (kx : ∀ o, hR h a i.toNatClampNeg = o → Ex G d M pc2 lv (va_rf o :: st) h Q) : Ex G d M pc lv (.int i :: .ref a :: st) h Q := x_aald h17 ha hin hd hp (kx _ rfl)
/-- one case of a switch -/
theorem y_tcase (c : Int32) {dflt lo hi : Int} {offs : Array Int} {len : Nat} {x : Int32} {off : Int} (tgt : Nat) (hd : decode M.2.1 pc = .ok (.tableswitch dflt lo hi offs, len)) (h1 : ¬ c.toInt < lo) (h2 : ¬ hi < c.toInt) (ho : offs[(c.toInt - lo).toNat]? = some off) (ht : (pc : Int) + off = (tgt : Int)) (kt : x = c → Ex G d M tgt lv st h Q) (kf : ¬ x = c → Ex G d M pc lv (.int x :: st) h Q) : Ex G d M pc lv (.int x :: st) h Q := by
  by_cases e : x = c
  · subst e; exact x_tableIn tgt hd h1 h2 ho ht (kt rfl)
  · exact kf e
theorem y_lcase (c : Int32) {dflt : Int} {ps : Array (Int × Int)} {len : Nat} {x : Int32} {off : Int} (tgt : Nat) (hd : decode M.2.1 pc = .ok (.lookupswitch dflt ps, len)) (hp : (ps.toList.zip (ps.toList.drop 1)).all (fun (a, next) => a.1 < next.1) = true) (ho : Op.lookupswitch.offset ps.toList dflt c.toInt = off) (ht : (pc : Int) + off = (tgt : Int)) (kt : x = c → Ex G d M tgt lv st h Q) (kf : ¬ x = c → Ex G d M pc lv (.int x :: st) h Q) : Ex G d M pc lv (.int x :: st) h Q := by
  by_cases e : x = c
  · subst e; exact x_lookup tgt hd hp ho ht (kt rfl)
  · exact kf e
/-- a new object, by names -/
theorem y_new {κ i : Nat} (hw : Cond.classLink M.1.cls i (kC κ) ∈ tb) (hκ : κ < 13) (hd : decode M.2.1 pc = .ok (.new i, 3)) (hp : pc + 3 = pc2) (kx : ∀ q h1, q = hZ h → h1 = nw h κ (kN κ) → KP h h1 → Ex G d M pc2 lv (.ref q :: st) h1 Q) : Ex G d M pc lv st h Q := x_new hw hκ hd hp (kx _ _ rfl rfl (KP.nw _ _ _))
theorem y_newa {κ : Nat} {at0 : ArrayType} {n : Int32} (hw : Cond.arrayClass (newarray.typeOf at0) ∈ tb) (ht : newarray.typeOf at0 = aTy κ) (hk1 : 13 ≤ κ) (hk2 : κ < 17) (hn : ¬ n < 0) (hb1 : n.toNatClampNeg ≤ 1000000) (hd : decode M.2.1 pc = .ok (.newarray at0, 2)) (hp : pc + 2 = pc2)
    (kx : ∀ q h1, q = hZ h → h1 = nw h κ n.toNatClampNeg → KP h h1 → Ex G d M pc2 lv (.ref q :: st) h1 Q) : Ex G d M pc lv (.int n :: st) h Q := x_newa hw ht hk1 hk2 hn hb1 hd hp (kx _ _ rfl rfl (KP.nw _ _ _))
theorem y_newq {κ i : Nat} {n : Int32} (hw : Cond.classLink M.1.cls i (kC (elK κ)) ∈ tb) (hao : kC (elK κ) ∈ aoC) (hk1 : 17 ≤ κ) (hk2 : κ < 21) (hn : ¬ n < 0) (hb1 : n.toNatClampNeg ≤ 1000000) (hd : decode M.2.1 pc = .ok (.anewarray i, 3)) (hp : pc + 3 = pc2)
    (kx : ∀ q h1, q = hZ h → h1 = nw h κ n.toNatClampNeg → KP h h1 → Ex G d M pc2 lv (.ref q :: st) h1 Q) : Ex G d M pc lv (.int n :: st) h Q := x_newq hw hao hk1 hk2 hn hb1 hd hp (kx _ _ rfl rfl (KP.nw _ _ _))
end XM
section XP
variable {G : GG} {d : Nat} {M : MM} {pc pc2 : Nat} {lv lv2 : List (Nat × Value)} {st : List Value} {h : HP} {Q : Option Value → HP → Prop}
theorem kp_sI (h : HP) (a k : Nat) (v : Int32) : KP h (sI h a k v) := ⟨Nat.le_refl _, Nat.le_refl _, fun _ _ => ⟨rfl, rfl⟩⟩
theorem kp_sL (h : HP) (a k : Nat) (v : Int64) : KP h (sL h a k v) := ⟨Nat.le_refl _, Nat.le_refl _, fun _ _ => ⟨rfl, rfl⟩⟩
theorem kp_sR (h : HP) (a k : Nat) (v : Option Nat) : KP h (sR h a k v) := ⟨Nat.le_refl _, Nat.le_refl _, fun _ _ => ⟨rfl, rfl⟩⟩
theorem nm_I {a k : Nat} {v : Int32} (kx : ∀ h1, h1 = sI h a k v → KP h h1 → Ex G d M pc lv st h1 Q) : Ex G d M pc lv st (sI h a k v) Q := kx _ rfl (kp_sI h a k v)
theorem nm_L {a k : Nat} {v : Int64} (kx : ∀ h1, h1 = sL h a k v → KP h h1 → Ex G d M pc lv st h1 Q) : Ex G d M pc lv st (sL h a k v) Q := kx _ rfl (kp_sL h a k v)
theorem nm_R {a k : Nat} {v : Option Nat} (kx : ∀ h1, h1 = sR h a k v → KP h h1 → Ex G d M pc lv st h1 Q) : Ex G d M pc lv st (sR h a k v) Q := kx _ rfl (kp_sR h a k v)
end XP
theorem iinc_eq {n : Int} {c : Int32} (h : Int32.ofInt n = c) (x : Int32) : x + Int32.ofInt n = x + c := by rw [h]
section XZ
variable {G : GG} {d : Nat} {M : MM} {pc pc2 : Nat} {lv lv2 : List (Nat × Value)} {st : List Value} {h : HP} {Q : Option Value → HP → Prop}
theorem z_iald {a k : Nat} {i : Int32} (hk : i.toNatClampNeg = k) (ha : Kd G h a 14) (hin : vp_in i (hN h a)) (hd : decode M.2.1 pc = .ok (.iaload, 1)) (hp : pc + 1 = pc2) (kx : Ex G d M pc2 lv (.int (hI h a k) :: st) h Q) : Ex G d M pc lv (.int i :: .ref a :: st) h Q := by subst hk; exact x_iald ha hin hd hp kx
theorem z_bald {a k : Nat} {i : Int32} (hk : i.toNatClampNeg = k) (ha : Kd G h a 13) (hin : vp_in i (hN h a)) (hd : decode M.2.1 pc = .ok (.baload, 1)) (hp : pc + 1 = pc2) (kx : Ex G d M pc2 lv (.int (hI h a k) :: st) h Q) : Ex G d M pc lv (.int i :: .ref a :: st) h Q := by subst hk; exact x_bald ha hin hd hp kx
theorem z_zald {a k : Nat} {i : Int32} (hk : i.toNatClampNeg = k) (ha : Kd G h a 16) (hin : vp_in i (hN h a)) (hd : decode M.2.1 pc = .ok (.baload, 1)) (hp : pc + 1 = pc2) (kx : Ex G d M pc2 lv (.int (hI h a k) :: st) h Q) : Ex G d M pc lv (.int i :: .ref a :: st) h Q := by subst hk; exact x_zald ha hin hd hp kx
theorem z_lald {a k : Nat} {i : Int32} (hk : i.toNatClampNeg = k) (ha : Kd G h a 15) (hin : vp_in i (hN h a)) (hd : decode M.2.1 pc = .ok (.laload, 1)) (hp : pc + 1 = pc2) (kx : Ex G d M pc2 lv (.long (hL h a k) :: st) h Q) : Ex G d M pc lv (.int i :: .ref a :: st) h Q := by subst hk; exact x_lald ha hin hd hp kx
theorem z_aaldR {a κ q k : Nat} {i : Int32} (hk : i.toNatClampNeg = k) (h17 : 17 ≤ κ) (ha : Kd G h a κ) (hin : vp_in i (hN h a)) (hq : hR h a k = some q) (hd : decode M.2.1 pc = .ok (.aaload, 1)) (hp : pc + 1 = pc2) (kx : Ex G d M pc2 lv (.ref q :: st) h Q) : Ex G d M pc lv (.int i :: .ref a :: st) h Q := by subst hk; exact y_aaldR h17 ha hin hq hd hp kx
theorem z_iast {a k : Nat} {i x : Int32} (hk : i.toNatClampNeg = k) (ha : Kd G h a 14) (hin : vp_in i (hN h a)) (hd : decode M.2.1 pc = .ok (.iastore, 1)) (hp : pc + 1 = pc2) (kx : Ex G d M pc2 lv st (sI h a k x) Q) : Ex G d M pc lv (.int x :: .int i :: .ref a :: st) h Q := by subst hk; exact x_iast ha hin hd hp kx
theorem z_bast {a k : Nat} {i x : Int32} (hk : i.toNatClampNeg = k) (ha : Kd G h a 13) (hin : vp_in i (hN h a)) (hd : decode M.2.1 pc = .ok (.bastore, 1)) (hp : pc + 1 = pc2) (kx : Ex G d M pc2 lv st (sI h a k x.toInt8.toInt32) Q) : Ex G d M pc lv (.int x :: .int i :: .ref a :: st) h Q := by subst hk; exact x_bast ha hin hd hp kx
theorem z_zast {a k : Nat} {i x : Int32} (hk : i.toNatClampNeg = k) (ha : Kd G h a 16) (hin : vp_in i (hN h a)) (hd : decode M.2.1 pc = .ok (.bastore, 1)) (hp : pc + 1 = pc2) (kx : Ex G d M pc2 lv st (sI h a k (x &&& 1)) Q) : Ex G d M pc lv (.int x :: .int i :: .ref a :: st) h Q := by subst hk; exact x_zast ha hin hd hp kx
theorem z_last {a k : Nat} {i : Int32} {x : Int64} (hk : i.toNatClampNeg = k) (ha : Kd G h a 15) (hin : vp_in i (hN h a)) (hd : decode M.2.1 pc = .ok (.lastore, 1)) (hp : pc + 1 = pc2) (kx : Ex G d M pc2 lv st (sL h a k x) Q) : Ex G d M pc lv (.long x :: .int i :: .ref a :: st) h Q := by subst hk; exact x_last ha hin hd hp kx
theorem z_copy0 {i : Int32} {k : Nat} (hk : i.toNatClampNeg = k) : i.toNatClampNeg = k := hk
end XZ
theorem Kd.sI {G : GG} {h : HP} {a κ b j : Nat} {v : Int32} (k : Kd G h a κ) : Kd G (sI h b j v) a κ := k
theorem Kd.sL {G : GG} {h : HP} {a κ b j : Nat} {v : Int64} (k : Kd G h a κ) : Kd G (sL h b j v) a κ := k
theorem Kd.sR {G : GG} {h : HP} {a κ b j : Nat} {v : Option Nat} (k : Kd G h a κ) : Kd G (sR h b j v) a κ := k
