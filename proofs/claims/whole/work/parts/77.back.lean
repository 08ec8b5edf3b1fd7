/-! ===== image and back ===== -/
theorem Bd.wc {G : GG} {h : HP} {y s : Nat} (B : Bd G h y s) : cntF (wallB (tg h s)) 6 24 = cntF (wallB (tS (said h y))) 6 24 := cntF_congr 24 6 (fun j h1 h2 => B.wB (by omega))
theorem r_image {G : GG} {d : Nat} {h : HP} {y k : Nat} {Q : Option Value → HP → Prop} (hd : 4 ≤ d) (hk : k < 4) (M : MdSh G h y) (W : WF (said h y)) (hQ : ∀ h2, FrI (fun a j => (a = y + 19 ∧ 2440 * k ≤ j ∧ j < 2440 * k + 2440) ∨ (a = y + 20 ∧ j = k)) h h2 → hI h2 (y + 20) k = 1 → (∀ j, j < 2440 → imS h2 y k j = said h y j) → Q (some (.int (nI (cntF (wallB (tS (said h y))) 6 24)))) h2) : Cal G d mX12_image [.ref y, .int (nI k)] h Q := by
  obtain ⟨p1, p2, p3⟩ : hR h y 50 = some (y + 20) ∧ Kd G h (y + 20) 16 ∧ hN h (y + 20) = 4 := M.2 (50, 20, 16, 4) (by decide)
  have y0 : (0 : Int64).toInt = 0 := by simp
  have y3 : (3 : Int64).toInt = 3 := by simp
  refine e_X12_image (by omega) (r_in ⟨_, rfl, fun _ => ⟨M.1, y + 20, p1, p2, by rw [p3]; exact vin_nI hk (by omega), ?_⟩, fun c => ?_⟩)
  · rw [cl_nI (by omega), show (1 &&& 1 : Int32) = 1 from rfl]
    generalize g : sI h (y + 20) k 1 = h1
    have F1 : FrI (fun a j => (a = y + 19 ∧ 2440 * k ≤ j ∧ j < 2440 * k + 2440) ∨ (a = y + 20 ∧ j = k)) h h1 := by
      rw [← g]; exact FrI.sI _ _ (Or.inr ⟨rfl, rfl⟩)
    have eS : said h1 y = said h y := funext fun j => F1.i (by omega)
    refine r_image23 hd hk (M.fr F1) (by rw [eS]; exact W) (fun h2 F2 V => ?_)
    rw [eS] at V ⊢
    refine hQ h2 (F1.tr (F2.weak (fun a j q => Or.inl q))) ?_ V
    rw [F2.i (by omega), ← g, hI_eq]
  · have c := if10.mp c
    rw [ti64, y0, y3, ti_nI (by omega)] at c
    omega
theorem p_image (G : GG) (u0 : Nat) (h : HP) (I : Inv G u0 h) (x1 : Int32) : Pr (Inv G u0) G G.1 (G.1 + 119) mX11_image mX12_image [.int x1] h := by
  obtain ⟨s, p, I⟩ := I
  unfold Pr Inv
  generalize G.1 = b at *
  generalize hy : b + 119 = y at *
  have B := I.bd
  have M := B.2.1
  have W := B.2.2.2
  have st := B.1
  have kb := I.kb
  have n2 := I.now
  have ns := I.2.1.1
  have hg := I.1.1
  have y0 : (0 : Int64).toInt = 0 := by simp
  have y3 : (3 : Int64).toInt = 3 := by simp
  have z0 : (0 : Int32).toInt = 0 := rfl
  have z4 : (4 : Int32).toInt = 4 := rfl
  have ok : some (Value.int (-1)) = some (Value.int (-1)) ∧ ∃ s p, InvB G u0 h b y s p := ⟨rfl, s, p, I⟩
  have no : ¬ (0 ≤ x1.toInt ∧ x1.toInt ≤ 3) → ∃ v, some (Value.int (-1)) = some (Value.int v) ∧ Cal G 59 mX12_image [.ref y, .int x1] h (fun r2 h2 => r2 = some (.int v) ∧ ∃ s p, InvB G u0 h2 b y s p) := fun hn => by
    refine ⟨_, rfl, e_X12_image (by omega) (r_in ⟨_, rfl, fun c => ?_, fun _ => ok⟩)⟩
    have c := Decidable.not_not.mp (fun z => c (if10.mpr z))
    rw [ti64, y0, y3] at c
    exact absurd c hn
  obtain ⟨-, a1, a2, a3⟩ : _ ∧ hR h b 5 = some (b + 14) ∧ Kd G h (b + 14) 19 ∧ hN h (b + 14) = 4 := I.1.2.2.1 (0, 5, 14, 19, 4) (by decide)
  refine e_X11_image (by omega) ⟨fun c => no (by rw [ti_lt, z0] at c; omega), fun c => ⟨fun c2 => ?_, fun c2 => no (by rw [ti_lt, z4] at c2; omega)⟩⟩
  rw [ti_lt, z0] at c
  rw [ti_lt, z4] at c2
  obtain ⟨k, hk, rfl⟩ := of_in (n := 4) (x := x1) (by omega) (by omega)
  obtain ⟨nl, nw', La, Wi, Im, T, X, D, Bu⟩ := I.1.2.2.2.2.2
  have bits := B.2.2.1.bits W
  have B3 := Bu.2.2
  have cl : (nI k).toNatClampNeg = k := cl_nI (by omega)
  refine ⟨kb, b + 14, a1, a2, by rw [a3]; exact vin_nI hk (by omega), fun o8 e8 => ⟨fun e => ?_, fun q11 e => ?_⟩⟩
  · rw [cl] at e8
    have mk : imd h y k = false := by
      rcases X k hk with z | z
      · unfold imd
        rw [z.2]; rfl
      · rw [z.1] at e8
        rw [← e8] at e
        cases e
    intro q12 h13 e12 e13
    subst e12 e13
    refine s_State_init (by omega) (nw_kd rfl (by omega)) (by rw [hZ_nw]) (fun j => by rw [hI_nw, if_pos rfl]) fun h18 P18 => ⟨rfl, ?_⟩
    have lo : ∀ a j, a < hZ h → hI h18 a j = hI h a j ∧ hR h18 a j = hR h a j := fun a j ha => by
      obtain ⟨z1, -, z3⟩ := P18.2.2.2.1 a ha j
      rw [z1, z3, hI_nw, if_neg (by omega), hR_nw, if_neg (by omega)]
      exact ⟨rfl, rfl⟩
    have kp18 : KP h h18 := (KP.nw h 6 9).tr P18.1
    obtain ⟨Sq, -⟩ := P18.sh
    refine ⟨b + 14, (lo _ _ (by omega)).2.trans a1, a2.up kp18, by rw [a2.len kp18, a3]; exact vin_nI hk (by omega), Sq.1, s, ?_, ?_⟩
    · rw [hR_sR, if_neg (by omega)]
      exact (lo _ _ (by omega)).2.trans n2
    rw [cl]
    generalize g : sR h18 (b + 14) k (some (hZ h)) = h19
    have kp19 : KP h18 h19 := g ▸ kp_sR ..
    have i19 : ∀ a j, hI h19 a j = hI h18 a j := fun a j => by rw [← g]; rfl
    have r19 : ∀ a j, ¬ (a = b + 14 ∧ j = k) → hR h19 a j = hR h18 a j := fun a j n => by rw [← g, hR_sR, if_neg n]
    have Sq19 : StSh G h19 (hZ h) := Sq.kp kp19 (fun a j h1 _ => r19 _ _ (by omega))
    have Ss19 : StSh G h19 s := st.kp (kp18.tr kp19) (fun a j h1 h2 => (r19 _ _ (by omega)).trans (lo _ _ (by omega)).2)
    have i19' : ∀ a j, a < hZ h → hI h19 a j = hI h a j := fun a j ha => (i19 a j).trans (lo a j ha).1
    refine s_copyFrom (by omega) Sq19 Ss19 (by omega) (fun t ht => ?_) (fun e he => ?_) (fun h28 F28 v28 => ⟨rfl, s, ?_, F28.kd Ss19.1, s_wallCount (Ss19.fr F28) ⟨_, rfl, _, rfl, ?_⟩⟩)
    · unfold tg
      rw [i19' _ _ (by omega)]
      exact bits.1 t ht
    · rw [i19' _ _ (by omega)]
      exact bits.2 e he
    · rw [F28.r, r19 _ _ (by omega)]
      exact (lo _ _ (by omega)).2.trans n2
    have eS : said h28 y = said h y := funext fun j => (F28.i (by omega)).trans (i19' _ _ (by omega))
    have M19 : MdSh G h19 y := ⟨(M.1.up kp18).up kp19, fun z hz => ⟨((r19 _ _ (by omega)).trans (lo _ _ (by omega)).2).trans (M.2 z hz).1, ((M.2 z hz).2.1.up kp18).up kp19, ((M.2 z hz).2.1.len (kp18.tr kp19)).trans (M.2 z hz).2.2⟩⟩
    have eg : ∀ t j, t < 31 → tg h28 s t j = tg h s t j := fun t j ht => (F28.i (by omega)).trans (i19' _ _ (by omega))
    have ew : cntF (wallB (tg h28 s)) 6 24 = cntF (wallB (tS (said h28 y))) 6 24 := by
      rw [eS, ← B.wc]
      refine cntF_congr 24 6 (fun j h1 h2 => ?_)
      unfold wallB
      rw [eg j 0 (by omega)]
    refine r_image (by omega) hk (M19.fr F28) (by rw [eS]; exact W) (fun h2 F2 m2 V => ⟨by rw [ew], s, p, ?_⟩)
    rw [eS] at V
    have W2 : WF (imS h2 y k) := W.ext V
    have Cq : CoSt h28 (hZ h) (said h y) := by
      refine CoSt.copy v28 ?_
      exact B.2.2.1.fr (fun a j h1 h2 => i19' _ _ (by omega))
    have Cq2 : CoSt h2 (hZ h) (imS h2 y k) := CoSt.ext W (Cq.fr (fun a j h1 _ => F2.i (by omega))) V
    have z18 : hZ h18 = hZ h + 42 := P18.2.1
    have u18 : hU h18 = hU h + 9 + 1781 + 12 * 31 + 6 * 6 := by rw [P18.2.2.1, hU_nw]
    have z2 : hZ h2 = hZ h + 42 := by rw [F2.2.1, F28.2.1, ← g]; exact z18
    have u2 : hU h2 = hU h18 := by rw [F2.2.2.1, F28.2.2.1, ← g]; rfl
    refine I.setImg (P := fun a j => (a = y + 19 ∧ 2440 * k ≤ j ∧ j < 2440 * k + 2440) ∨ (a = y + 20 ∧ j = k) ∨ (hZ h ≤ a ∧ a < hZ h + 42)) (RP := fun a j => a = b + 14 ∧ j = k) T X D Bu hk ⟨((kp18.tr kp19).tr F28.1).tr F2.1, fun a j ha n => ?_, fun a j ha n => ?_⟩ (fun a j q => q) (fun a j q => q) ⟨by omega, by omega⟩ (Or.inr ⟨mk, rfl, z2, by omega⟩) ?_ m2 ((Sq19.fr F28).fr F2) Cq2 W2 ?_
    · rw [F2.i (fun q => n (by omega)), F28.i (fun q => n (by omega))]
      exact i19' a j ha
    · rw [F2.r, F28.r, r19 a j n]
      exact (lo a j ha).2
    · rw [F2.r, F28.r, ← g, hR_sR, if_pos ⟨rfl, rfl⟩]
    · rw [V 3 (by omega)]
      exact I.2.2.2.2.1
  · rw [cl] at e8
    rcases X k hk with z | ⟨z1, z2, z3, z4', z5, z6, z7, z8⟩
    · rw [z.1] at e8
      rw [← e8] at e
      cases e
    · have mk : imd h y k = true := by
        unfold imd
        rw [z2]; rfl
      obtain rfl : Im k = q11 := by
        rw [z1] at e8
        rw [← e8] at e
        exact Option.some.inj e
      refine ⟨s, n2, z5.1, s_copyFrom (by omega) z5 st (by omega) bits.1 bits.2 (fun h28 F28 v28 => ⟨rfl, s, (F28.r _ _).trans n2, F28.kd st.1, s_wallCount (st.fr F28) ⟨_, rfl, _, rfl, ?_⟩⟩)⟩
      have eS : said h28 y = said h y := funext fun j => F28.i (by omega)
      have eg : ∀ t j, t < 31 → tg h28 s t j = tg h s t j := fun t j ht => F28.i (by omega)
      have ew : cntF (wallB (tg h28 s)) 6 24 = cntF (wallB (tS (said h28 y))) 6 24 := by
        rw [eS, ← B.wc]
        refine cntF_congr 24 6 (fun j h1 h2 => ?_)
        unfold wallB
        rw [eg j 0 (by omega)]
      refine r_image (by omega) hk (M.fr F28) (by rw [eS]; exact W) (fun h2 F2 m2 V => ⟨by rw [ew], s, p, ?_⟩)
      rw [eS] at V
      have W2 : WF (imS h2 y k) := W.ext V
      have Cq : CoSt h28 (Im k) (said h y) := CoSt.copy v28 B.2.2.1
      have Cq2 : CoSt h2 (Im k) (imS h2 y k) := CoSt.ext W (Cq.fr (fun a j h1 _ => F2.i (by omega))) V
      refine I.setImg (P := fun a j => (a = y + 19 ∧ 2440 * k ≤ j ∧ j < 2440 * k + 2440) ∨ (a = y + 20 ∧ j = k) ∨ (Im k ≤ a ∧ a < Im k + 42)) (RP := fun a j => False) T X D Bu hk ⟨F28.1.tr F2.1, fun a j ha n => ?_, fun a j ha n => ?_⟩ (fun a j q => q) (fun a j q => q.elim) ⟨z3, by rw [F2.2.1, F28.2.1]; exact z4'⟩ (Or.inl ⟨mk, rfl, by rw [F2.2.1, F28.2.1], by rw [F2.2.2.1, F28.2.2.1]⟩) ?_ m2 ((z5.fr F28).fr F2) Cq2 W2 ?_
      · rw [F2.i (fun q => n (by omega)), F28.i (fun q => n (by omega))]
      · rw [F2.r, F28.r]
      · rw [F2.r, F28.r]
        exact z1
      · rw [V 3 (by omega)]
        exact I.2.2.2.2.1
theorem p_back (G : GG) (u0 : Nat) (h : HP) (I : Inv G u0 h) (x1 : Int32) : Pr (Inv G u0) G G.1 (G.1 + 119) mX11_back mX12_back [.int x1] h := by
  obtain ⟨s, p, I⟩ := I
  unfold Pr Inv
  generalize G.1 = b at *
  generalize hy : b + 119 = y at *
  have B := I.bd
  have M := B.2.1
  have W := B.2.2.2
  have st := B.1
  have kb := I.kb
  have n2 := I.now
  have ns := I.2.1.1
  have hg := I.1.1
  have y0 : (0 : Int64).toInt = 0 := by simp
  have y3 : (3 : Int64).toInt = 3 := by simp
  have z0 : (0 : Int32).toInt = 0 := rfl
  have z4 : (4 : Int32).toInt = 4 := rfl
  have ok : some (Value.int (-1)) = some (Value.int (-1)) ∧ ∃ s p, InvB G u0 h b y s p := ⟨rfl, s, p, I⟩
  obtain ⟨p1, p2, p3⟩ : hR h y 50 = some (y + 20) ∧ Kd G h (y + 20) 16 ∧ hN h (y + 20) = 4 := M.2 (50, 20, 16, 4) (by decide)
  have no : ¬ (0 ≤ x1.toInt ∧ x1.toInt ≤ 3) → ∃ v, some (Value.int (-1)) = some (Value.int v) ∧ Cal G 59 mX12_back [.ref y, .int x1] h (fun r2 h2 => r2 = some (.int v) ∧ ∃ s p, InvB G u0 h2 b y s p) := fun hn => by
    refine ⟨_, rfl, e_X12_back (by omega) (r_in ⟨_, rfl, fun _ => ok, fun c => ?_⟩)⟩
    have c := Decidable.not_not.mp (fun z => c (if10.mpr z))
    rw [ti64, y0, y3] at c
    exact absurd c hn
  obtain ⟨-, a1, a2, a3⟩ : _ ∧ hR h b 5 = some (b + 14) ∧ Kd G h (b + 14) 19 ∧ hN h (b + 14) = 4 := I.1.2.2.1 (0, 5, 14, 19, 4) (by decide)
  refine e_X11_back (by omega) ⟨fun c => no (by rw [ti_lt, z0] at c; omega), fun c => ⟨fun c2 => ?_, fun c2 => no (by rw [ti_lt, z4] at c2; omega)⟩⟩
  rw [ti_lt, z0] at c
  rw [ti_lt, z4] at c2
  obtain ⟨k, hk, rfl⟩ := of_in (n := 4) (x := x1) (by omega) (by omega)
  obtain ⟨nl, nw', La, Wi, Im, T, X, D, Bu⟩ := I.1.2.2.2.2.2
  have B3 := Bu.2.2
  have cl : (nI k).toNatClampNeg = k := cl_nI (by omega)
  have yes : ∀ {Q : Option Value → HP → Prop} {h1 : HP}, MdSh G h1 y → (∀ {v : Int32}, ¬ v = 0 → v = hI h1 (y + 20) k → Ex G 59 mX12_back 25 [(0, .ref y), (1, .int (nI k)), (2, .int 0)] [] h1 Q) → (hI h1 (y + 20) k = 0 → Q (some (.int (-1))) h1) → Cal G 59 mX12_back [.ref y, .int (nI k)] h1 Q := by
    intro Q h1 M1 q1 q0
    obtain ⟨p1, p2, p3⟩ : hR h1 y 50 = some (y + 20) ∧ Kd G h1 (y + 20) 16 ∧ hN h1 (y + 20) = 4 := M1.2 (50, 20, 16, 4) (by decide)
    refine e_X12_back (by omega) (r_in ⟨_, rfl, fun c => ?_, fun _ => ⟨M1.1, y + 20, p1, p2, by rw [p3]; exact vin_nI hk (by omega), fun c => q1 c (by rw [cl]), fun c => q0 (by rw [cl] at c; exact c)⟩⟩)
    have c := if10.mp c
    rw [ti64, y0, y3, ti_nI (by omega)] at c
    omega
  refine ⟨kb, b + 14, a1, a2, by rw [a3]; exact vin_nI hk (by omega), fun o8 e8 => ⟨fun e => ?_, fun q11 e => ?_⟩⟩
  · rw [cl] at e8
    rcases X k hk with z | z
    · exact ⟨_, rfl, yes M (fun c e => absurd (e.trans z.2) c) (fun _ => ok)⟩
    · rw [z.1] at e8
      rw [← e8] at e
      cases e
  · rw [cl] at e8
    rcases X k hk with z | ⟨z1, z2, z3, z4', z5, z6, z7, z8⟩
    · rw [z.1] at e8
      rw [← e8] at e
      cases e
    · obtain rfl : Im k = q11 := by
        rw [z1] at e8
        rw [← e8] at e
        exact Option.some.inj e
      have bits := z6.bits z7
      obtain ⟨t1, Tb⟩ := TbSh.of I
      refine ⟨s, n2, st.1, s_copyFrom (by omega) st z5 (by omega) bits.1 bits.2 (fun h15 F15 v15 => ⟨rfl, b + 15, (F15.r _ _).trans t1, s, (F15.r _ _).trans n2, F15.kd Tb.1, ?_⟩)⟩
      have C15 : CoSt h15 s (imS h y k) := CoSt.copy v15 z6
      have Z15 : BorZ h15 b := I.2.2.2.2.2.2.fr (fun a j h1 h2 => F15.i (by omega))
      refine s_rebuild (by omega) (by omega) (Tb.fr F15) (st.fr F15) (LandS.of C15 z7) Z15 (fun h23 F23 SO Z23 => ⟨rfl, s, (F23.r _ _).trans ((F15.r _ _).trans n2), F23.kd (F15.kd st.1), s_wallCount ((st.fr F15).fr F23) ⟨_, rfl, _, rfl, ?_⟩⟩)
      have F : FrI (fun a j => (s ≤ a ∧ a < s + 42) ∨ (b + 16 ≤ a ∧ a ≤ b + 20)) h h23 := (F15.weak (fun a j q => Or.inl q)).tr (F23.weak (fun a j q => Or.inr q))
      have ei : imS h23 y k = imS h y k := funext fun j => F.i (by omega)
      have C23 : CoSt h23 s (imS h y k) := C15.fr (fun a j h1 h2 => F23.i (by unfold RbF; omega))
      refine yes (M.fr F) (fun _ _ => r_back25 (by omega) hk (M.fr F) (by rw [ei]; exact z7) (fun h2 F2 V => ?_)) (fun q => ?_)
      · rw [ei] at V
        have W2 : WF (said h2 y) := z7.ext V
        have C2 : CoSt h2 s (said h2 y) := CoSt.ext z7 (C23.fr (fun a j h1 h2 => F2.i (by omega))) V
        refine ⟨?_, s, p, ?_⟩
        · have e1 : cntF (wallB (tg h23 s)) 6 24 = cntF (wallB (tS (said h2 y))) 6 24 := cntF_congr 24 6 (fun j h1 h3 => by
            unfold wallB
            rw [(C23.2.2.2.1 j (by omega)).1]
            have : tS (said h2 y) j 0 = tS (imS h y k) j 0 := V _ (by omega)
            rw [this])
          rw [e1]
        · have FF : FrJ (fun a j => ((s ≤ a ∧ a < s + 42) ∨ (b + 16 ≤ a ∧ a ≤ b + 20)) ∨ a = y + 13) (fun _ _ => False) h h2 := ((F.j _).weak (fun a j q => Or.inl q) (fun _ _ q => q)).tr ((F2.j _).weak (fun a j q => Or.inr q) (fun _ _ q => q))
          refine I.core FF (fun a j q => by unfold Tight; omega) (fun _ _ q => q.elim) ⟨C2, W2, by rw [V 3 (by omega)]; exact z8, Or.inr ?_, Z23.fr (fun a j h1 h2 => F2.i (by omega))⟩
          exact (SO.fr (fun a j h1 h2 => F2.i (by omega))).congr (V 0 (by omega)) (V 1 (by omega)) z7.1.1.1.2 z7.1.1.2.1.2 (fun c hc => V _ (by omega))
      · rw [F.i (by omega), z2] at q
        exact absurd q (by decide)
