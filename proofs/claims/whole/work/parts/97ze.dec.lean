/-! ===== a way over one wall, cut at its gate ===== -/
theorem dst_is {E : Nat → Nat → Prop} {o c : Nat} (g : GEd E) (ho : o < 1600) {z : Int} (h : (z = -1 ∧ ∀ k, ¬ Rch E o k c) ∨ ∃ k : Nat, z = k ∧ Rch E o k c ∧ ∀ k', Rch E o k' c → k ≤ k') : dst E o c = z := by
  rcases h with ⟨rfl, n⟩ | ⟨k, rfl, h1, h2⟩
  · rcases dst_rng g ho c with e | ⟨e, -, -⟩
    · exact e
    · obtain ⟨k, hk⟩ : ∃ k : Nat, dst E o c = k := ⟨(dst E o c).toNat, by omega⟩
      exact absurd (dst_rch g ho k c hk) (n k)
  · obtain ⟨a1, a2⟩ := dst_le g ho k c h1
    rcases dst_rng g ho c with e | ⟨e, -, -⟩
    · exact absurd e a1
    · obtain ⟨j, hj⟩ : ∃ j : Nat, dst E o c = j := ⟨(dst E o c).toNat, by omega⟩
      have := h2 j (dst_rch g ho j c hj)
      omega
theorem dst_min {E : Nat → Nat → Prop} {o c : Nat} (g : GEd E) (ho : o < 1600) : (dst E o c = -1 ∧ ∀ k, ¬ Rch E o k c) ∨ ∃ k : Nat, dst E o c = k ∧ Rch E o k c ∧ ∀ k', Rch E o k' c → k ≤ k' := by
  rcases dst_rng g ho c with e | ⟨e, -, -⟩
  · exact Or.inl ⟨e, fun k r => (dst_le g ho k c r).1 e⟩
  · obtain ⟨j, hj⟩ : ∃ j : Nat, dst E o c = j := ⟨(dst E o c).toNat, by omega⟩
    refine Or.inr ⟨j, hj, dst_rch g ho j c hj, fun k' r => ?_⟩
    have := (dst_le g ho k' c r).2
    omega
theorem Rch.mono {E E' : Nat → Nat → Prop} (h : ∀ c k, E c k → E' c k) {o : Nat} : ∀ {k c : Nat}, Rch E o k c → Rch E' o k c
  | 0, _, r => r
  | k + 1, c, ⟨p, s, s4, r, e, q⟩ => ⟨p, s, s4, Rch.mono h r, h p s e, q⟩
theorem Rch.app {E : Nat → Nat → Prop} {o p : Nat} {k : Nat} (r : Rch E o k p) : ∀ {j c : Nat}, Rch E p j c → Rch E o (k + j) c
  | 0, c, q => by
    have : c = p := q
    subst this
    exact r
  | j + 1, c, ⟨a, s, s4, q, e, z⟩ => ⟨a, s, s4, Rch.app r q, e, z⟩
def Sym (E : Nat → Nat → Prop) : Prop := ∀ c k, E c k → ∃ k', k' < 4 ∧ E (nbC c k) k' ∧ nbC (nbC c k) k' = c
theorem Rch.rev {E : Nat → Nat → Prop} (y : Sym E) {o : Nat} : ∀ {k c : Nat}, Rch E o k c → Rch E c k o
  | 0, c, r => by
    have : c = o := r
    subst this
    exact (rfl : c = c)
  | k + 1, c, ⟨p, s, s4, r, e, q⟩ => by
    obtain ⟨k', h1, h2, h3⟩ := y p s e
    rw [q] at h2 h3
    have one : Rch E c 1 p := ⟨c, k', h1, (rfl : c = c), h2, h3⟩
    have := Rch.app one (Rch.rev y r)
    rw [Nat.add_comm] at this
    exact this
/-- edges but those over the line of w -/
def E0 (S : Nat → Int32) (w c k : Nat) : Prop := Ed S w c k ∧ ¬ crW (tS S) w c (nbC c k)
section DC
variable {S : Nat → Int32} {w : Nat}
theorem E0.ged (L : Ld40 S) : GEd (E0 S w) := fun c s h4 h => Ed.ged L c s h4 h.1
theorem ed0_iff (hw : wl (tS S) w) {c k : Nat} : Ed S 0 c k ↔ Ed S w c k ∧ (crW (tS S) w c (nbC c k) → gp (tS S) w c k) := by
  unfold Ed
  constructor
  · rintro ⟨a, b, c, d⟩
    exact ⟨⟨a, b, c, fun u hu _ cr => d u hu (by have := hu.1; omega) cr⟩, fun cr => d w hw (by have := hw.1; omega) cr⟩
  · rintro ⟨⟨a, b, c, d⟩, e⟩
    refine ⟨a, b, c, fun u hu _ cr => ?_⟩
    by_cases q : u = w
    · subst q
      exact e cr
    · exact d u hu q cr
theorem E0.sub (hw : wl (tS S) w) {c k : Nat} (h : E0 S w c k) : Ed S 0 c k := (ed0_iff hw).mpr ⟨h.1, fun cr => absurd cr h.2⟩
theorem E0.sym (L : Ld40 S) : Sym (E0 S w) := fun c k h => by
  obtain ⟨b1, b2⟩ := h.1.back L
  refine ⟨(k + 2) % 4, by omega, ⟨b1, ?_⟩, b2⟩
  rw [b2]
  exact fun q => h.2 q.symm
/-- cut at the gate -/
theorem dec (W : WF S) (hw : wl (tS S) w) {o : Nat} : ∀ (k c : Nat), Rch (Ed S 0) o k c → (¬ crW (tS S) w o c → ∃ k', k' ≤ k ∧ Rch (E0 S w) o k' c) ∧ (crW (tS S) w o c → ∃ n kn k1 k2, Ed S 0 n kn ∧ crW (tS S) w n (nbC n kn) ∧ ¬ crW (tS S) w o n ∧ Rch (E0 S w) o k1 n ∧ Rch (E0 S w) (nbC n kn) k2 c ∧ k1 + 1 + k2 ≤ k) := by
  have L := W.l40
  have w0 : w ≠ 0 := by have := hw.1; omega
  intro k
  induction k with
  | zero =>
    intro c r
    have e : c = o := r
    subst e
    exact ⟨fun _ => ⟨0, Nat.le_refl _, (rfl : c = c)⟩, fun q => absurd Iff.rfl q⟩
  | succ k ih =>
    rintro c ⟨p, s, s4, r, e, q⟩
    obtain ⟨i1, i2⟩ := ih p r
    by_cases cr : crW (tS S) w p c
    · refine ⟨fun nc => ?_, fun yc => ?_⟩
      · have yp : crW (tS S) w o p := Classical.byContradiction (fun z => nc (by
          unfold crW at *
          simp_all))
        obtain ⟨n, kn, k1, k2, a1, a2, a3, a4, a5, a6⟩ := i2 yp
        obtain ⟨b1, b2⟩ := e.back L
        rw [q] at b1 b2
        have crb : crW (tS S) w c (nbC c ((s + 2) % 4)) := by rw [b2]; exact cr.symm
        have i : wIn (tS S) w c ↔ wIn (tS S) w n := by
          unfold crW at nc a3
          exact (Classical.not_not.mp nc).symm.trans (Classical.not_not.mp a3)
        have en := gp_one L b1.1 a1.1 crb a2 (b1.2.2.2 w hw w0 crb) (a1.2.2.2 w hw w0 a2) i
        rw [en]
        exact ⟨k1, by omega, a4⟩
      · have np : ¬ crW (tS S) w o p := fun z => z.tr2 cr yc
        obtain ⟨k', h1, h2⟩ := i1 np
        exact ⟨p, s, k', 0, e, by rw [q]; exact cr, np, h2, by rw [q]; exact (rfl : c = c), by omega⟩
    · have e0 : E0 S w p s := ⟨((ed0_iff hw).mp e).1, by rw [q]; exact cr⟩
      refine ⟨fun nc => ?_, fun yc => ?_⟩
      · have np : ¬ crW (tS S) w o p := fun z => nc (z.tr cr)
        obtain ⟨k', h1, h2⟩ := i1 np
        exact ⟨k' + 1, by omega, p, s, s4, h2, e0, q⟩
      · have yp : crW (tS S) w o p := yc.tr (fun z => cr z.symm)
        obtain ⟨n, kn, k1, k2, a1, a2, a3, a4, a5, a6⟩ := i2 yp
        exact ⟨n, kn, k1, k2 + 1, a1, a2, a3, a4, ⟨p, s, s4, a5, e0, q⟩, by omega⟩
/-- on one's own side the gate doesn't matter -/
theorem dst_side (W : WF S) (hw : wl (tS S) w) {o c : Nat} (ho : o < 1600) (nc : ¬ crW (tS S) w o c) : dst (Ed S 0) o c = dst (E0 S w) o c := by
  have L := W.l40
  refine dst_is (Ed.ged L) ho ?_
  rcases dst_min (E0.ged (w := w) L) ho (c := c) with ⟨e, n⟩ | ⟨k, e, r, m⟩
  · refine Or.inl ⟨e, fun k r => ?_⟩
    obtain ⟨k', -, h⟩ := (dec W hw k c r).1 nc
    exact n k' h
  · refine Or.inr ⟨k, e, r.mono (fun _ _ => E0.sub hw), fun k' r' => ?_⟩
    obtain ⟨k2, h1, h2⟩ := (dec W hw k' c r').1 nc
    have := m k2 h2
    omega
theorem dst_sym (L : Ld40 S) {o c : Nat} (ho : o < 1600) (hc : c < 1600) : dst (E0 S w) o c = dst (E0 S w) c o := by
  refine dst_is (E0.ged L) ho ?_
  rcases dst_min (E0.ged (w := w) L) hc (c := o) with ⟨e, n⟩ | ⟨k, e, r, m⟩
  · exact Or.inl ⟨e, fun k r => n k (r.rev (E0.sym L))⟩
  · exact Or.inr ⟨k, e, r.rev (E0.sym L), fun k' r' => m k' (r'.rev (E0.sym L))⟩
/-- over the gate, by its two cells -/
theorem dst_over (W : WF S) (hw : wl (tS S) w) {o t n kn : Nat} (ho : o < 1600) (yt : crW (tS S) w o t) (hE : Ed S 0 n kn) (k4 : kn < 4) (cn : crW (tS S) w n (nbC n kn)) (nn : ¬ crW (tS S) w o n) : dst (Ed S 0) o t = if dst (E0 S w) o n = -1 ∨ dst (E0 S w) (nbC n kn) t = -1 then -1 else dst (E0 S w) o n + 1 + dst (E0 S w) (nbC n kn) t := by
  have L := W.l40
  have w0 : w ≠ 0 := by have := hw.1; omega
  have nf := (hE.1.nb L).1.lt L
  refine dst_is (Ed.ged L) ho ?_
  have uniq : ∀ k, Rch (Ed S 0) o k t → ∃ k1 k2, Rch (E0 S w) o k1 n ∧ Rch (E0 S w) (nbC n kn) k2 t ∧ k1 + 1 + k2 ≤ k := fun k r => by
    obtain ⟨n', kn', k1, k2, a1, a2, a3, a4, a5, a6⟩ := (dec W hw k t r).2 yt
    have i : wIn (tS S) w n ↔ wIn (tS S) w n' := by
      unfold crW at nn a3
      exact (Classical.not_not.mp nn).symm.trans (Classical.not_not.mp a3)
    have en := gp_one L hE.1 a1.1 cn a2 (hE.2.2.2 w hw w0 cn) (a1.2.2.2 w hw w0 a2) i
    obtain ⟨b1, b2⟩ := hE.back L
    obtain ⟨b1', b2'⟩ := a1.back L
    have crb : crW (tS S) w (nbC n kn) (nbC (nbC n kn) ((kn + 2) % 4)) := by rw [b2]; exact cn.symm
    have crb' : crW (tS S) w (nbC n' kn') (nbC (nbC n' kn') ((kn' + 2) % 4)) := by rw [b2']; exact a2.symm
    have i2 : wIn (tS S) w (nbC n kn) ↔ wIn (tS S) w (nbC n' kn') := by
      unfold crW at cn a2
      by_cases x1 : wIn (tS S) w n <;> by_cases x2 : wIn (tS S) w (nbC n kn) <;> by_cases x3 : wIn (tS S) w n' <;> by_cases x4 : wIn (tS S) w (nbC n' kn') <;> simp_all
    have ef := gp_one L b1.1 b1'.1 crb crb' (b1.2.2.2 w hw w0 crb) (b1'.2.2.2 w hw w0 crb') i2
    rw [ef, en]
    exact ⟨k1, k2, a4, a5, a6⟩
  rcases dst_min (E0.ged (w := w) L) ho (c := n) with ⟨e1, n1⟩ | ⟨j1, e1, r1, m1⟩
  · rw [if_pos (Or.inl e1)]
    refine Or.inl ⟨rfl, fun k r => ?_⟩
    obtain ⟨k1, k2, a, -, -⟩ := uniq k r
    exact n1 k1 a
  · rcases dst_min (E0.ged (w := w) L) nf (c := t) with ⟨e2, n2⟩ | ⟨j2, e2, r2, m2⟩
    · rw [if_pos (Or.inr e2)]
      refine Or.inl ⟨rfl, fun k r => ?_⟩
      obtain ⟨k1, k2, -, a, -⟩ := uniq k r
      exact n2 k2 a
    · rw [if_neg (by omega), e1, e2]
      refine Or.inr ⟨j1 + 1 + j2, by omega, ?_, fun k' r' => ?_⟩
      · have a : Rch (Ed S 0) o (j1 + 1) (nbC n kn) := ⟨n, kn, k4, r1.mono (fun _ _ => E0.sub hw), hE, rfl⟩
        exact a.app (r2.mono (fun _ _ => E0.sub hw))
      · obtain ⟨k1, k2, a1, a2, a3⟩ := uniq k' r'
        have := m1 k1 a1
        have := m2 k2 a2
        omega
theorem dst_shut (W : WF S) (hw : wl (tS S) w) {o t : Nat} (ho : o < 1600) (yt : crW (tS S) w o t) (no : ∀ n kn, Ed S 0 n kn → ¬ crW (tS S) w n (nbC n kn)) : dst (Ed S 0) o t = -1 := by
  refine dst_is (Ed.ged W.l40) ho (Or.inl ⟨rfl, fun k r => ?_⟩)
  obtain ⟨n, kn, k1, k2, a1, a2, -⟩ := (dec W hw k t r).2 yt
  exact no n kn a1 a2
end DC
/-! ===== another gate of the same wall ===== -/
/-- all as it is, but a gate at side sd and place pl of wall w -/
def GtS (S S' : Nat → Int32) (w sd pl : Nat) : Prop := (∀ j, ¬ (j = 1608 + 12 * w + 7 ∨ j = 1608 + 12 * w + 8 ∨ j = 1608 + 12 * w + 9) → S' j = S j) ∧ tS S' w 7 = nI sd ∧ tS S' w 8 = nI pl ∧ tS S' w 9 = if tS S w 9 = -1 then 0 else tS S w 9
def lnW (A : Nat → Nat → Int32) (w sd : Nat) : Nat := if sd % 2 = 0 then cN A w 3 - cN A w 1 else cN A w 4 - cN A w 2
/-- the cell within, at such a gate -/
def gin (A : Nat → Nat → Int32) (w sd pl : Nat) : Nat := 40 * (if sd = 0 then cN A w 2 else if sd = 2 then cN A w 4 - 1 else cN A w 2 + pl) + (if sd = 1 then cN A w 3 - 1 else if sd = 3 then cN A w 1 else cN A w 1 + pl)
section GQ
variable {S S' : Nat → Int32} {w sd pl : Nat}
theorem gts_t (Q : GtS S S' w sd pl) {u k : Nat} (hk : k < 12) (h : u ≠ w ∨ (k ≠ 7 ∧ k ≠ 8 ∧ k ≠ 9)) : tS S' u k = tS S u k := Q.1 _ (by omega)
theorem gts_wl (Q : GtS S S' w sd pl) (u : Nat) : wl (tS S') u ↔ wl (tS S) u := by
  unfold wl
  rw [gts_t Q (by omega) (Or.inr (by omega))]
theorem gts_win (Q : GtS S S' w sd pl) (u c : Nat) : wIn (tS S') u c ↔ wIn (tS S) u c := by
  unfold wIn inC
  rw [gts_t Q (by omega) (Or.inr (by omega)), gts_t Q (by omega) (Or.inr (by omega)), gts_t Q (by omega) (Or.inr (by omega)), gts_t Q (by omega) (Or.inr (by omega))]
theorem gts_crw (Q : GtS S S' w sd pl) (u c d : Nat) : crW (tS S') u c d ↔ crW (tS S) u c d := by
  unfold crW
  rw [gts_win Q, gts_win Q]
theorem gts_rv (Q : GtS S S' w sd pl) {c : Nat} (hc : c < 1600) : rv S' c ↔ rv S c := by
  unfold rv
  rw [Q.1 _ (by omega)]
theorem gts_ld (Q : GtS S S' w sd pl) (c : Nat) : inLd S' c ↔ inLd S c := by
  unfold inLd
  rw [Q.1 0 (by omega), Q.1 1 (by omega)]
theorem gts_hop (Q : GtS S S' w sd pl) (c k : Nat) : hop S' c k ↔ hop S c k := by
  unfold hop inLd
  rw [Q.1 0 (by omega), Q.1 1 (by omega)]
theorem gts_gp (Q : GtS S S' w sd pl) {u : Nat} (hu : u ≠ w) (c k : Nat) : gp (tS S') u c k ↔ gp (tS S) u c k := by
  unfold gp
  rw [gts_win Q, gts_t Q (by omega) (Or.inl hu), gts_t Q (by omega) (Or.inl hu), gts_t Q (by omega) (Or.inl hu), gts_t Q (by omega) (Or.inl hu)]
theorem gts_edw (L : Ld40 S) (Q : GtS S S' w sd pl) (c k : Nat) : Ed S' w c k ↔ Ed S w c k := by
  unfold Ed
  rw [gts_hop Q]
  refine and_congr_right (fun hp => ?_)
  rw [gts_rv Q (hp.1.lt L), gts_rv Q ((hp.nb L).1.lt L)]
  refine and_congr_right (fun _ => and_congr_right (fun _ => forall_congr' (fun u => ?_)))
  rw [gts_wl Q, gts_crw Q]
  refine imp_congr_right (fun _ => imp_congr_right (fun hu => imp_congr_right (fun _ => gts_gp Q hu c k)))
theorem gts_e0 (L : Ld40 S) (Q : GtS S S' w sd pl) : E0 S' w = E0 S w := funext fun c => funext fun k => propext (by
  unfold E0
  rw [gts_edw L Q, gts_crw Q])
theorem gts_tlc (W : WF S) (hw : wl (tS S) w) (h4 : sd < 4) (Q : GtS S S' w sd pl) (f : Int32) (u : Nat) : tlc (tS S') f u = tlc (tS S) f u := by
  unfold tlc
  rw [gts_t Q (u := u) (k := 5) (by omega) (Or.inr (by omega)), gts_t Q (u := u) (k := 10) (by omega) (Or.inr (by omega))]
  by_cases c : tS S u 5 = f ∨ tS S u 10 >>> (f &&& 31) &&& 1 = 1
  · rw [if_pos c, if_pos c]
  · rw [if_neg c, if_neg c]
    by_cases hu : u = w
    · subst hu
      rw [Q.2.1, if_neg (nI_ne_neg (by omega)), Q.2.2.2]
      rcases (W.gt u hw).2 with ⟨q7, q8, q9⟩ | ⟨q7, q8, q9, q10⟩
      · rw [if_pos q7, if_pos q9]
        rfl
      · unfold rng at q7 q10
        rw [if_neg (fun e => by rw [e, tn1] at q10; omega), if_neg (fun e => by rw [e, tn1] at q7; omega)]
    · rw [gts_t Q (by omega) (Or.inl hu), gts_t Q (by omega) (Or.inl hu)]
theorem gts_coi (W : WF S) (hw : wl (tS S) w) (h4 : sd < 4) (Q : GtS S S' w sd pl) (f : Int32) (o c : Nat) : coi (tS S') f o c = coi (tS S) f o c := by
  unfold coi
  refine sum1_congr 24 (fun i _ => ?_)
  by_cases q : wl (tS S) (6 + i) ∧ crW (tS S) (6 + i) o c
  · rw [cnw_yes q.1 q.2, cnw_yes ((gts_wl Q _).mpr q.1) ((gts_crw Q _ _ _).mpr q.2), gts_tlc W hw h4 Q]
  · rw [cnw_no q, cnw_no (fun z => q ⟨(gts_wl Q _).mp z.1, (gts_crw Q _ _ _).mp z.2⟩)]
theorem gts_wf (W : WF S) (hw : wl (tS S) w) (h4 : sd < 4) (hp : pl < lnW (tS S) w sd) (Q : GtS S S' w sd pl) : WF S' := by
  have w30 := hw.2.1
  have g := W.2.2.2.2.1 w w30 hw.2.2
  obtain ⟨⟨a1, a2, a3, a4⟩, ⟨b1, b2⟩, b3, b4⟩ := g.n W.1.1.1.2 W.1.1.2.1.2
  refine W.thg (fun j hj => Q.1 j (by omega)) (fun t ht => gts_t Q (by omega) (Or.inr (by omega))) (fun t ht q => ?_) ?_ (fun t ht => ?_) (fun t h1 h2 => ?_) ?_
  · rw [gts_t Q (by omega) (Or.inr (by omega))] at q
    obtain ⟨c1, c2, c3⟩ := W.1.2.2.2.2.2.1 t ht q
    rw [gts_t Q (u := t) (k := 5) (by omega) (Or.inr (by omega))]
    by_cases e : t = w
    · subst e
      refine ⟨fun z => by have := hw.1; omega, c2, ?_⟩
      unfold gat at c3 ⊢
      refine ⟨by rw [gts_t Q (by omega) (Or.inr (by omega))]; exact c3.1, Or.inr ⟨?_, ?_, ?_, ?_⟩⟩
      · rw [Q.2.1]
        unfold rng
        rw [ti_nI (by omega)]
        omega
      · rw [Q.2.2.1, ti_nI (by unfold lnW at hp; split at hp <;> omega)]
        omega
      · rw [Q.2.1, Q.2.2.1, gts_t Q (by omega) (Or.inr (by omega)), gts_t Q (by omega) (Or.inr (by omega)), gts_t Q (by omega) (Or.inr (by omega)), gts_t Q (by omega) (Or.inr (by omega)), a1, a2, a3, a4]
        rw [ti_nI (by unfold lnW at hp; split at hp <;> omega), ti_nI (show sd < 2147483648 by omega), ti_nI (by omega), ti_nI (by omega), ti_nI (by omega), ti_nI (by omega)]
        unfold lnW at hp
        split at hp
        · rw [if_pos (by omega)]
          omega
        · rw [if_neg (by omega)]
          omega
      · rw [Q.2.2.2]
        rcases c3.2 with ⟨q7, q8, q9⟩ | ⟨q7, q8, q9, q10⟩
        · rw [if_pos q9]
          unfold rng
          rw [show (0 : Int32).toInt = 0 from rfl]
          omega
        · unfold rng at q10 ⊢
          rw [if_neg (fun e => by rw [e, tn1] at q10; omega)]
          exact q10
    · unfold gat at c3 ⊢
      rw [gts_t Q (k := 7) (by omega) (Or.inl e), gts_t Q (k := 8) (by omega) (Or.inl e), gts_t Q (k := 9) (by omega) (Or.inl e), gts_t Q (k := 10) (by omega) (Or.inl e), gts_t Q (k := 1) (by omega) (Or.inl e), gts_t Q (k := 2) (by omega) (Or.inl e), gts_t Q (k := 3) (by omega) (Or.inl e), gts_t Q (k := 4) (by omega) (Or.inl e)]
      exact ⟨c1, c2, c3⟩
  · rintro ⟨t, ht, q⟩
    rw [gts_t Q (by omega) (Or.inr (by omega))] at q
    rw [Q.1 2 (by omega)]
    exact W.2.1 ⟨t, ht, q⟩
  · rw [gts_t Q (by omega) (Or.inr (by omega))]
    exact W.2.2.1 t ht
  · rw [gts_t Q (by omega) (Or.inr (by omega))]
    exact W.2.2.2.1 t h1 h2
  · rw [Q.1 0 (by omega), Q.1 1 (by omega)]
    exact W.2.2.2.2.congr (fun u k hu hk => gts_t Q (by omega) (Or.inr (by omega)))
/-- the cell within: where it lies -/
theorem gin_at (W : WF S) (hw : wl (tS S) w) (h4 : sd < 4) (hp : pl < lnW (tS S) w sd) : inLd S (gin (tS S) w sd pl) ∧ wIn (tS S) w (gin (tS S) w sd pl) ∧ (hop S (gin (tS S) w sd pl) sd → ¬ wIn (tS S) w (nbC (gin (tS S) w sd pl) sd)) ∧ gin (tS S) w sd pl % 40 = (if sd = 1 then cN (tS S) w 3 - 1 else if sd = 3 then cN (tS S) w 1 else cN (tS S) w 1 + pl) ∧ gin (tS S) w sd pl / 40 = (if sd = 0 then cN (tS S) w 2 else if sd = 2 then cN (tS S) w 4 - 1 else cN (tS S) w 2 + pl) := by
  have w30 := hw.2.1
  have L := W.l40
  have g := W.2.2.2.2.1 w w30 hw.2.2
  have gi := fun x z => inC_n g W.1.1.1.2 W.1.1.2.1.2 x z
  obtain ⟨⟨a1, a2, a3, a4⟩, ⟨b1, b2⟩, b3, b4⟩ := g.n W.1.1.1.2 W.1.1.2.1.2
  unfold geo at g
  rw [a1, a2, a3, a4, ti_nI (by omega), ti_nI (by omega), ti_nI (by omega), ti_nI (by omega)] at g
  have hl : pl < 40 ∧ (sd % 2 = 0 → cN (tS S) w 1 + pl < cN (tS S) w 3) ∧ (sd % 2 = 1 → cN (tS S) w 2 + pl < cN (tS S) w 4) := by
    unfold lnW at hp
    split at hp <;> omega
  have co : gin (tS S) w sd pl % 40 = (if sd = 1 then cN (tS S) w 3 - 1 else if sd = 3 then cN (tS S) w 1 else cN (tS S) w 1 + pl) ∧ gin (tS S) w sd pl / 40 = (if sd = 0 then cN (tS S) w 2 else if sd = 2 then cN (tS S) w 4 - 1 else cN (tS S) w 2 + pl) := by
    unfold gin
    rcases (show sd = 0 ∨ sd = 1 ∨ sd = 2 ∨ sd = 3 by omega) with e | e | e | e <;> subst e <;> simp <;> omega
  have cx : cN (tS S) w 1 ≤ gin (tS S) w sd pl % 40 ∧ gin (tS S) w sd pl % 40 < cN (tS S) w 3 ∧ cN (tS S) w 2 ≤ gin (tS S) w sd pl / 40 ∧ gin (tS S) w sd pl / 40 < cN (tS S) w 4 := by
    rw [co.1, co.2]
    rcases (show sd = 0 ∨ sd = 1 ∨ sd = 2 ∨ sd = 3 by omega) with e | e | e | e <;> subst e <;> simp <;> omega
  refine ⟨?_, ?_, fun hp' => ?_, co⟩
  · unfold inLd
    omega
  · unfold wIn
    rw [gi]
    omega
  · have n := (hp'.nb L).2.2
    unfold wIn
    rw [gi]
    rcases (show sd = 0 ∨ sd = 1 ∨ sd = 2 ∨ sd = 3 by omega) with e | e | e | e <;> subst e <;> simp at co <;> omega
/-- where the new gate is gone over -/
theorem gts_gate (W : WF S) (hw : wl (tS S) w) (h4 : sd < 4) (hp : pl < lnW (tS S) w sd) (Q : GtS S S' w sd pl) {c k : Nat} (h : hop S c k) (cr : crW (tS S) w c (nbC c k)) : (wIn (tS S) w c → (gp (tS S') w c k ↔ c = gin (tS S) w sd pl ∧ k = sd)) := by
  intro iw
  have w30 := hw.2.1
  have L := W.l40
  have g := W.2.2.2.2.1 w w30 hw.2.2
  have gi := fun x z => inC_n g W.1.1.1.2 W.1.1.2.1.2 x z
  obtain ⟨⟨a1, a2, a3, a4⟩, ⟨b1, b2⟩, b3, b4⟩ := g.n W.1.1.1.2 W.1.1.2.1.2
  have at' := (gin_at W hw h4 hp).2.2.2
  have n := (h.nb L).2.2
  have ow : ¬ wIn (tS S) w (nbC c k) := fun z => cr ⟨fun _ => z, fun _ => iw⟩
  have iw' := iw
  unfold wIn at iw' ow
  rw [gi] at iw' ow
  unfold gp
  rw [gts_win Q, Q.2.1, Q.2.2.1, gts_t Q (by omega) (Or.inr (by omega)), gts_t Q (by omega) (Or.inr (by omega)), a1, a2, ti_nI (show sd < 2147483648 by omega), ti_nI (show pl < 2147483648 by unfold lnW at hp; split at hp <;> omega), ti_nI (by omega), ti_nI (by omega)]
  have k4 := h.s4
  constructor
  · rintro ⟨q1, -, q3, q4⟩
    have e : k = sd := by have := q1 iw; omega
    subst e
    refine ⟨?_, rfl⟩
    rcases (show k = 0 ∨ k = 1 ∨ k = 2 ∨ k = 3 by omega) with e | e | e | e <;> subst e <;> simp at at' q3 q4 n <;> omega
  · rintro ⟨e, rfl⟩
    rw [← e] at at'
    refine ⟨fun _ => rfl, fun z => absurd iw z, fun q => ?_, fun q => ?_⟩
    · rcases (show k = 0 ∨ k = 2 by omega) with e | e <;> subst e <;> simp at at' <;> omega
    · rcases (show k = 1 ∨ k = 3 by omega) with e | e <;> subst e <;> simp at at' <;> omega
/-- over which the way goes from the one side -/
def gnr (S : Nat → Int32) (w sd pl o : Nat) (near : Nat) (far : Nat) : Prop := (wIn (tS S) w o ∧ near = gin (tS S) w sd pl ∧ far = nbC (gin (tS S) w sd pl) sd) ∨ (¬ wIn (tS S) w o ∧ near = nbC (gin (tS S) w sd pl) sd ∧ far = gin (tS S) w sd pl)
theorem gate_way (W : WF S) (hw : wl (tS S) w) (h4 : sd < 4) (hp : pl < lnW (tS S) w sd) (Q : GtS S S' w sd pl) {o t n f : Nat} (ho : o < 1600) (ht : t < 1600) (yt : crW (tS S) w o t) (N : gnr S w sd pl o n f) : dR S' 0 o t = @ite _ (¬ hop S (gin (tS S) w sd pl) sd ∨ dR S 0 o n = -1 ∨ dR S 0 t f = -1) (Classical.propDecidable _) (-1) (dR S 0 o n + 1 + dR S 0 t f) := by
  have L := W.l40
  have W' := gts_wf W hw h4 hp Q
  have L' := W'.l40
  have hw' := (gts_wl Q w).mpr hw
  have yt' := (gts_crw Q w o t).mpr yt
  by_cases ro : rv S o
  · rw [dR_rv ((gts_rv Q ho).mpr ro), if_pos (Or.inr (Or.inl (dR_rv ro)))]
  · have ro' : ¬ rv S' o := fun q => ro ((gts_rv Q ho).mp q)
    by_cases rt : rv S t
    · rw [dR_no ro', dst_rv L' ho ro' ((gts_rv Q ht).mpr rt), if_pos (Or.inr (Or.inr (dR_rv rt)))]
    · rw [dR_no ro', dR_no ro, dR_no rt]
      obtain ⟨g1, g2, g3, -⟩ := gin_at W hw h4 hp
      -- no edge of another kind goes over
      have cross : ∀ c k, Ed S' 0 c k → crW (tS S') w c (nbC c k) → hop S (gin (tS S) w sd pl) sd ∧ ¬ rv S (gin (tS S) w sd pl) ∧ ¬ rv S (nbC (gin (tS S) w sd pl) sd) := fun c k e cr => by
        have key : ∀ c k, Ed S' 0 c k → crW (tS S') w c (nbC c k) → wIn (tS S) w c → hop S (gin (tS S) w sd pl) sd ∧ ¬ rv S (gin (tS S) w sd pl) ∧ ¬ rv S (nbC (gin (tS S) w sd pl) sd) := fun c k e cr iw => by
          have hp' := (gts_hop Q c k).mp e.1
          obtain ⟨rfl, rfl⟩ := (gts_gate W hw h4 hp Q hp' ((gts_crw Q _ _ _).mp cr) iw).mp (e.2.2.2 w hw' (by have := hw.1; omega) cr)
          exact ⟨hp', fun q => e.2.1 ((gts_rv Q (hp'.1.lt L)).mpr q), fun q => e.2.2.1 ((gts_rv Q ((hp'.nb L).1.lt L)).mpr q)⟩
        by_cases iw : wIn (tS S) w c
        · exact key c k e cr iw
        · obtain ⟨b1, b2⟩ := e.back L'
          refine key _ _ b1 (by rw [b2]; exact cr.symm) ?_
          have cr2 := (gts_crw Q _ _ _).mp cr
          exact Classical.byContradiction (fun z => cr2 ⟨fun y => absurd y iw, fun y => absurd y z⟩)
      by_cases hp' : hop S (gin (tS S) w sd pl) sd
      · have nl := hp'.nb L
        have crg : crW (tS S) w (gin (tS S) w sd pl) (nbC (gin (tS S) w sd pl) sd) := fun z => g3 hp' (z.mp g2)
        have gi16 := g1.lt L
        have go16 := nl.1.lt L
        have n16 : n < 1600 ∧ f < 1600 := by rcases N with ⟨-, a, b⟩ | ⟨-, a, b⟩ <;> omega
        have nn : ¬ crW (tS S) w o n := by
          rcases N with ⟨a, b, c⟩ | ⟨a, b, c⟩
          · rw [b]
            exact fun q => q ⟨fun _ => g2, fun _ => a⟩
          · rw [b]
            exact fun q => q ⟨fun z => absurd z a, fun z => absurd z (g3 hp')⟩
        have nf : ¬ crW (tS S) w t f := by
          have yt2 := yt
          unfold crW at yt2
          rcases N with ⟨a, b, c⟩ | ⟨a, b, c⟩
          · rw [c]
            have : ¬ wIn (tS S) w t := fun z => yt2 ⟨fun _ => z, fun _ => a⟩
            exact fun q => q ⟨fun z => absurd z this, fun z => absurd z (g3 hp')⟩
          · rw [c]
            have : wIn (tS S) w t := Classical.byContradiction (fun z => yt2 ⟨fun y => absurd y a, fun y => absurd y z⟩)
            exact fun q => q ⟨fun _ => g2, fun _ => this⟩
        by_cases rr : rv S (gin (tS S) w sd pl) ∨ rv S (nbC (gin (tS S) w sd pl) sd)
        · rw [dst_shut W' hw' ho yt' (fun c k e cr => by have := cross c k e cr; exact rr.elim this.2.1 this.2.2), if_pos]
          refine Or.inr ?_
          have rnf : rv S n ∨ rv S f := by
            rcases N with ⟨a, b, c⟩ | ⟨a, b, c⟩
            · rw [b, c]; exact rr
            · rw [b, c]; exact rr.symm
          rcases rnf with q | q
          · exact Or.inl (dst_rv L ho ro q)
          · exact Or.inr (dst_rv L ht rt q)
        · have rg : ¬ rv S (gin (tS S) w sd pl) := fun q => rr (Or.inl q)
          have rg2 : ¬ rv S (nbC (gin (tS S) w sd pl) sd) := fun q => rr (Or.inr q)
          have eg : Ed S' 0 (gin (tS S) w sd pl) sd := by
            refine ⟨(gts_hop Q _ _).mpr hp', fun q => rg ((gts_rv Q gi16).mp q), fun q => rg2 ((gts_rv Q go16).mp q), fun u hu _ cu => ?_⟩
            obtain rfl := cr_one W L hp' hw ((gts_wl Q u).mp hu) crg ((gts_crw Q _ _ _).mp cu)
            exact (gts_gate W hw h4 hp Q hp' crg g2).mpr ⟨rfl, rfl⟩
          obtain ⟨kn, k4, en, ef⟩ : ∃ kn, kn < 4 ∧ Ed S' 0 n kn ∧ nbC n kn = f := by
            rcases N with ⟨a, b, c⟩ | ⟨a, b, c⟩
            · exact ⟨sd, h4, by rw [b]; exact eg, by rw [b, c]⟩
            · obtain ⟨b1, b2⟩ := eg.back L'
              exact ⟨(sd + 2) % 4, by omega, by rw [b]; exact b1, by rw [b, c]; exact b2⟩
          have cnf : crW (tS S') w n (nbC n kn) := by
            rw [ef, gts_crw Q]
            rcases N with ⟨a, b, c⟩ | ⟨a, b, c⟩
            · rw [b, c]; exact crg
            · rw [b, c]; exact crg.symm
          rw [dst_over W' hw' ho yt' en k4 cnf (fun q => nn ((gts_crw Q _ _ _).mp q)), ef, gts_e0 L Q, ← dst_side W hw ho nn, dst_sym L n16.2 ht, ← dst_side W hw ht nf]
          by_cases z : dst (Ed S 0) o n = -1 ∨ dst (Ed S 0) t f = -1
          · rw [if_pos z, if_pos (Or.inr z)]
          · rw [if_neg z, if_neg (fun q => q.elim (fun y => y hp') z)]
      · rw [dst_shut W' hw' ho yt' (fun c k e cr => hp' (cross c k e cr).1), if_pos (Or.inl hp')]
theorem gate_same (W : WF S) (hw : wl (tS S) w) (h4 : sd < 4) (hp : pl < lnW (tS S) w sd) (Q : GtS S S' w sd pl) {o t : Nat} (ho : o < 1600) (nt : ¬ crW (tS S) w o t) : dR S' 0 o t = dR S 0 o t := by
  have L := W.l40
  have W' := gts_wf W hw h4 hp Q
  have hw' := (gts_wl Q w).mpr hw
  by_cases ro : rv S o
  · rw [dR_rv ((gts_rv Q ho).mpr ro), dR_rv ro]
  · rw [dR_no (fun q => ro ((gts_rv Q ho).mp q)), dR_no ro, dst_side W' hw' ho (fun q => nt ((gts_crw Q _ _ _).mp q)), dst_side W hw ho nt, gts_e0 L Q]
end GQ
