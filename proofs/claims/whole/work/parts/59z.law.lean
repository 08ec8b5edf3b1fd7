/-! ===== the law's loop, over an invariant and the 31 pairs of calls ===== -/
/-- both answer alike, and the invariant holds behind them -/
theorem lgc0 (w : Int64) : lg_cmp w w = 0 := by simp [lg_cmp]
theorem nI_9 (i : Nat) : nI i + 9 = nI (i + 9) := by
  show Int32.ofNat i + Int32.ofNat 9 = Int32.ofNat (i + 9)
  exact (Int32.ofNat_add i 9).symm
set_option maxHeartbeats 4000000 in
set_option maxRecDepth 20000 in
theorem law_loop {G : GG} {Q : Option Value → HP → Prop} {X Y : Nat} (Inv : HP → Prop) (hL : G.2.2.1 ≤ 4608) (hk : ∀ h, Inv h → Kd G h X 11 ∧ Kd G h Y 12) (hend : ∀ h, Inv h → Q (some (.int 1)) h)
    (p_feed : ∀ h, Inv h → ∀ x1 x2 x3 x4 x5 : Int32, Pr Inv G X Y mX11_feed mX12_feed [.int x1, .int x2, .int x3, .int x4, .int x5] h) (p_end : ∀ h, Inv h → ∀ x1 : Int32, Pr Inv G X Y mX11_end mX12_end [.int x1] h) (p_land : ∀ h, Inv h → Pr Inv G X Y mX11_land mX12_land [] h) (p_text : ∀ h, Inv h → ∀ x1 : Int32, Pr Inv G X Y mX11_text mX12_text [.int x1] h) (p_like : ∀ h, Inv h → ∀ x1 x2 x3 : Int32, Pr Inv G X Y mX11_like mX12_like [.int x1, .int x2, .int x3] h) (p_can : ∀ h, Inv h → ∀ x1 x2 x3 x4 x5 x6 x7 x8 : Int32, Pr Inv G X Y mX11_can mX12_can [.int x1, .int x2, .int x3, .int x4, .int x5, .int x6, .int x7, .int x8] h) (p_build : ∀ h, Inv h → ∀ x1 x2 x3 x4 x5 x6 x7 x8 : Int32, Pr Inv G X Y mX11_build mX12_build [.int x1, .int x2, .int x3, .int x4, .int x5, .int x6, .int x7, .int x8] h) (p_wish : ∀ h, Inv h → ∀ x1 x2 x3 x4 x5 x6 x7 x8 : Int32, PrL Inv G X Y mX11_wish mX12_wish [.int x1, .int x2, .int x3, .int x4, .int x5, .int x6, .int x7, .int x8] h) (p_pull : ∀ h, Inv h → ∀ x1 : Int32, Pr Inv G X Y mX11_pull mX12_pull [.int x1] h) (p_gate : ∀ h, Inv h → ∀ x1 x2 x3 x4 : Int32, Pr Inv G X Y mX11_gate mX12_gate [.int x1, .int x2, .int x3, .int x4] h) (p_key : ∀ h, Inv h → ∀ x1 x2 x3 : Int32, x3 = 0 ∨ x3 = 1 → Pr Inv G X Y mX11_key mX12_key [.int x1, .int x2, .int x3] h) (p_thing : ∀ h, Inv h → ∀ x1 x2 : Int32, Pr Inv G X Y mX11_thing mX12_thing [.int x1, .int x2] h) (p_cell : ∀ h, Inv h → ∀ x1 x2 x3 : Int32, Pr Inv G X Y mX11_cell mX12_cell [.int x1, .int x2, .int x3] h) (p_inside : ∀ h, Inv h → ∀ x1 x2 : Int32, Pr Inv G X Y mX11_inside mX12_inside [.int x1, .int x2] h) (p_best : ∀ h, Inv h → ∀ x1 x2 x3 x4 x5 x6 x7 : Int32, Pr Inv G X Y mX11_best mX12_best [.int x1, .int x2, .int x3, .int x4, .int x5, .int x6, .int x7] h) (p_ahead : ∀ h, Inv h → ∀ x1 x2 x3 x4 x5 x6 x7 : Int32, Pr Inv G X Y mX11_ahead mX12_ahead [.int x1, .int x2, .int x3, .int x4, .int x5, .int x6, .int x7] h) (p_least : ∀ h, Inv h → ∀ x1 x2 x3 x4 x5 : Int32, Pr Inv G X Y mX11_least mX12_least [.int x1, .int x2, .int x3, .int x4, .int x5] h) (p_most : ∀ h, Inv h → ∀ x1 x2 x3 : Int32, Pr Inv G X Y mX11_most mX12_most [.int x1, .int x2, .int x3] h) (p_nests : ∀ h, Inv h → ∀ x1 : Int32, Pr Inv G X Y mX11_nests mX12_nests [.int x1] h) (p_between : ∀ h, Inv h → ∀ x1 x2 : Int32, Pr Inv G X Y mX11_between mX12_between [.int x1, .int x2] h) (p_way : ∀ h, Inv h → ∀ x1 x2 x3 x4 x5 x6 : Int32, Pr Inv G X Y mX11_way mX12_way [.int x1, .int x2, .int x3, .int x4, .int x5, .int x6] h) (p_errand : ∀ h, Inv h → ∀ x1 x2 x3 x4 x5 x6 : Int32, Pr Inv G X Y mX11_errand mX12_errand [.int x1, .int x2, .int x3, .int x4, .int x5, .int x6] h) (p_sum : ∀ h, Inv h → ∀ x1 : Int32, Pr Inv G X Y mX11_sum mX12_sum_ [.int x1] h) (p_where : ∀ h, Inv h → ∀ x1 x2 : Int32, Pr Inv G X Y mX11_where mX12_where [.int x1, .int x2] h) (p_gains : ∀ h, Inv h → ∀ x1 : Int32, Pr Inv G X Y mX11_gains mX12_gains [.int x1] h) (p_seed : ∀ h, Inv h → ∀ x1 : Int32, Pr Inv G X Y mX11_seed mX12_seed [.int x1] h) (p_years : ∀ h, Inv h → ∀ x1 x2 : Int32, Pr Inv G X Y mX11_years mX12_years [.int x1, .int x2] h) (p_after : ∀ h, Inv h → ∀ x1 x2 x3 : Int32, Pr Inv G X Y mX11_after mX12_after [.int x1, .int x2, .int x3] h) (p_count : ∀ h, Inv h → ∀ x1 : Int32, Pr Inv G X Y mX11_count mX12_count [.int x1] h) (p_image : ∀ h, Inv h → ∀ x1 : Int32, Pr Inv G X Y mX11_image mX12_image [.int x1] h) (p_back : ∀ h, Inv h → ∀ x1 : Int32, Pr Inv G X Y mX11_back mX12_back [.int x1] h) :
    ∀ n i h, Inv h → 4608 ≤ i + n → i ≤ 4608 → Ex G 60 mL_law 18 [(0, .ref (G.2.1 3)), (1, .ref X), (2, .ref Y), (3, .int (nI i))] [] h Q := by
  have e9 : (Int32.ofNat G.2.2.1 - 9).toInt = (G.2.2.1 : Int) - 9 := by
    have e1 : (Int32.ofNat G.2.2.1).toInt = G.2.2.1 := ti_nI (by omega)
    have e2 : (9 : Int32).toInt = 9 := rfl
    rw [ti_sub] <;> rw [e1, e2] <;> omega
  intro n
  induction n using Nat.strongRecOn with
  | _ n ih =>
    intro i h hI hn hi8
    refine t_L_law_18 (by omega) ⟨fun _ => hend h hI, fun c => ?_⟩
    have hlt : i + 9 ≤ G.2.2.1 := by
      rw [ti_lt, e9, ti_nI (by omega)] at c
      omega
    have hvk : ∀ (k : Nat) (z : Int32), z.toInt = k → k < 9 → vp_in (nI i + z) G.2.2.1 := by
      intro k z hz hk9
      have e : (nI i + z).toInt = i + k := by
        rw [ti_add] <;> rw [ti_nI (by omega), hz] <;> omega
      exact vin (by omega) (by omega)
    have next : ∀ h2, Inv h2 → Ex G 60 mL_law 18 [(0, .ref (G.2.1 3)), (1, .ref X), (2, .ref Y), (3, .int (nI i + 9))] [] h2 Q := by
      intro h2 hI2
      rw [nI_9]
      exact ih (n - 9) (by omega) (i + 9) h2 hI2 (by omega) (by omega)
    have kX := (hk h hI).1
    have kY := (hk h hI).2
    have v1 := hvk 1 1 rfl (by omega)
    have v2 := hvk 2 2 rfl (by omega)
    have v3 := hvk 3 3 rfl (by omega)
    have v4 := hvk 4 4 rfl (by omega)
    have v5 := hvk 5 5 rfl (by omega)
    have v6 := hvk 6 6 rfl (by omega)
    have v7 := hvk 7 7 rfl (by omega)
    have v8 := hvk 8 8 rfl (by omega)
    refine ⟨vin (by rw [ti_nI (by omega)]; omega) (by rw [ti_nI (by omega)]; omega), ?_⟩
    refine ⟨fun _ => ?_, fun _ => ?_⟩
    · exact ⟨v1, v2, v3, v4, v5, kX, (p_feed h hI _ _ _ _ _).mono (fun r h1 kp q => by
        obtain ⟨w, e, cc⟩ := q
        exact ⟨w, e, v1, v2, v3, v4, v5, kY.up kp, cc.mono (fun r2 h2 kp2 q2 => ⟨w, q2.1, fun _ => next h2 q2.2, fun q => absurd rfl q⟩)⟩)⟩
    refine ⟨fun _ => ?_, fun _ => ?_⟩
    · exact ⟨v1, kX, (p_end h hI _).mono (fun r h1 kp q => by
        obtain ⟨w, e, cc⟩ := q
        exact ⟨w, e, v1, kY.up kp, cc.mono (fun r2 h2 kp2 q2 => ⟨w, q2.1, fun _ => next h2 q2.2, fun q => absurd rfl q⟩)⟩)⟩
    refine ⟨fun _ => ?_, fun _ => ?_⟩
    · exact ⟨kX, (p_land h hI ).mono (fun r h1 kp q => by
        obtain ⟨w, e, cc⟩ := q
        exact ⟨w, e, kY.up kp, cc.mono (fun r2 h2 kp2 q2 => ⟨w, q2.1, fun _ => next h2 q2.2, fun q => absurd rfl q⟩)⟩)⟩
    refine ⟨fun _ => ?_, fun _ => ?_⟩
    · exact ⟨v1, kX, (p_text h hI _).mono (fun r h1 kp q => by
        obtain ⟨w, e, cc⟩ := q
        exact ⟨w, e, v1, kY.up kp, cc.mono (fun r2 h2 kp2 q2 => ⟨w, q2.1, fun _ => next h2 q2.2, fun q => absurd rfl q⟩)⟩)⟩
    refine ⟨fun _ => ?_, fun _ => ?_⟩
    · exact ⟨v1, v2, v3, kX, (p_like h hI _ _ _).mono (fun r h1 kp q => by
        obtain ⟨w, e, cc⟩ := q
        exact ⟨w, e, v1, v2, v3, kY.up kp, cc.mono (fun r2 h2 kp2 q2 => ⟨w, q2.1, fun _ => next h2 q2.2, fun q => absurd rfl q⟩)⟩)⟩
    refine ⟨fun _ => ?_, fun _ => ?_⟩
    · exact ⟨v1, v2, v3, v4, v5, v6, v7, v8, kX, (p_can h hI _ _ _ _ _ _ _ _).mono (fun r h1 kp q => by
        obtain ⟨w, e, cc⟩ := q
        exact ⟨w, e, v1, v2, v3, v4, v5, v6, v7, v8, kY.up kp, cc.mono (fun r2 h2 kp2 q2 => ⟨w, q2.1, fun _ => next h2 q2.2, fun q => absurd rfl q⟩)⟩)⟩
    refine ⟨fun _ => ?_, fun _ => ?_⟩
    · exact ⟨v1, v2, v3, v4, v5, v6, v7, v8, kX, (p_build h hI _ _ _ _ _ _ _ _).mono (fun r h1 kp q => by
        obtain ⟨w, e, cc⟩ := q
        exact ⟨w, e, v1, v2, v3, v4, v5, v6, v7, v8, kY.up kp, cc.mono (fun r2 h2 kp2 q2 => ⟨w, q2.1, fun _ => next h2 q2.2, fun q => absurd rfl q⟩)⟩)⟩
    refine ⟨fun _ => ?_, fun _ => ?_⟩
    · exact ⟨v1, v2, v3, v4, v5, v6, v7, v8, kX, (p_wish h hI _ _ _ _ _ _ _ _).mono (fun r h1 kp q => by
        obtain ⟨w, e, cc⟩ := q
        exact ⟨w, e, v1, v2, v3, v4, v5, v6, v7, v8, kY.up kp, cc.mono (fun r2 h2 kp2 q2 => ⟨w, q2.1, fun _ => next h2 q2.2, fun q => absurd (lgc0 w) q⟩)⟩)⟩
    refine ⟨fun _ => ?_, fun _ => ?_⟩
    · exact ⟨v1, kX, (p_pull h hI _).mono (fun r h1 kp q => by
        obtain ⟨w, e, cc⟩ := q
        exact ⟨w, e, v1, kY.up kp, cc.mono (fun r2 h2 kp2 q2 => ⟨w, q2.1, fun _ => next h2 q2.2, fun q => absurd rfl q⟩)⟩)⟩
    refine ⟨fun _ => ?_, fun _ => ?_⟩
    · exact ⟨v1, v2, v3, v4, kX, (p_gate h hI _ _ _ _).mono (fun r h1 kp q => by
        obtain ⟨w, e, cc⟩ := q
        exact ⟨w, e, v1, v2, v3, v4, kY.up kp, cc.mono (fun r2 h2 kp2 q2 => ⟨w, q2.1, fun _ => next h2 q2.2, fun q => absurd rfl q⟩)⟩)⟩
    refine ⟨fun _ => ?_, fun _ => ?_⟩
    · exact ⟨v1, v2, v3, fun c3 => t_L_law_735 (by omega) ⟨kX, (p_key h hI _ _ 0 (Or.inl rfl)).mono (fun r h1 kp q => by
          obtain ⟨w, e, cc⟩ := q
          exact ⟨w, e, v1, v2, v3, fun q0 => ⟨kY.up kp, cc.mono (fun r2 h2 kp2 q2 => ⟨w, q2.1, fun _ => next h2 q2.2, fun q => absurd rfl q⟩)⟩, fun q0 => absurd c3 q0⟩)⟩, fun c3 => t_L_law_735 (by omega) ⟨kX, (p_key h hI _ _ 1 (Or.inr rfl)).mono (fun r h1 kp q => by
          obtain ⟨w, e, cc⟩ := q
          exact ⟨w, e, v1, v2, v3, fun q0 => absurd q0 c3, fun q0 => ⟨kY.up kp, cc.mono (fun r2 h2 kp2 q2 => ⟨w, q2.1, fun _ => next h2 q2.2, fun q => absurd rfl q⟩)⟩⟩)⟩⟩
    refine ⟨fun _ => ?_, fun _ => ?_⟩
    · exact ⟨v1, v2, kX, (p_thing h hI _ _).mono (fun r h1 kp q => by
        obtain ⟨w, e, cc⟩ := q
        exact ⟨w, e, v1, v2, kY.up kp, cc.mono (fun r2 h2 kp2 q2 => ⟨w, q2.1, fun _ => next h2 q2.2, fun q => absurd rfl q⟩)⟩)⟩
    refine ⟨fun _ => ?_, fun _ => ?_⟩
    · exact ⟨v1, v2, v3, kX, (p_cell h hI _ _ _).mono (fun r h1 kp q => by
        obtain ⟨w, e, cc⟩ := q
        exact ⟨w, e, v1, v2, v3, kY.up kp, cc.mono (fun r2 h2 kp2 q2 => ⟨w, q2.1, fun _ => next h2 q2.2, fun q => absurd rfl q⟩)⟩)⟩
    refine ⟨fun _ => ?_, fun _ => ?_⟩
    · exact ⟨v1, v2, kX, (p_inside h hI _ _).mono (fun r h1 kp q => by
        obtain ⟨w, e, cc⟩ := q
        exact ⟨w, e, v1, v2, kY.up kp, cc.mono (fun r2 h2 kp2 q2 => ⟨w, q2.1, fun _ => next h2 q2.2, fun q => absurd rfl q⟩)⟩)⟩
    refine ⟨fun _ => ?_, fun _ => ?_⟩
    · exact ⟨v1, v2, v3, v4, v5, v6, v7, kX, (p_best h hI _ _ _ _ _ _ _).mono (fun r h1 kp q => by
        obtain ⟨w, e, cc⟩ := q
        exact ⟨w, e, v1, v2, v3, v4, v5, v6, v7, kY.up kp, cc.mono (fun r2 h2 kp2 q2 => ⟨w, q2.1, fun _ => next h2 q2.2, fun q => absurd rfl q⟩)⟩)⟩
    refine ⟨fun _ => ?_, fun _ => ?_⟩
    · exact ⟨v1, v2, v3, v4, v5, v6, v7, kX, (p_ahead h hI _ _ _ _ _ _ _).mono (fun r h1 kp q => by
        obtain ⟨w, e, cc⟩ := q
        exact ⟨w, e, v1, v2, v3, v4, v5, v6, v7, kY.up kp, cc.mono (fun r2 h2 kp2 q2 => ⟨w, q2.1, fun _ => next h2 q2.2, fun q => absurd rfl q⟩)⟩)⟩
    refine ⟨fun _ => ?_, fun _ => ?_⟩
    · exact ⟨v1, v2, v3, v4, v5, kX, (p_least h hI _ _ _ _ _).mono (fun r h1 kp q => by
        obtain ⟨w, e, cc⟩ := q
        exact ⟨w, e, v1, v2, v3, v4, v5, kY.up kp, cc.mono (fun r2 h2 kp2 q2 => ⟨w, q2.1, fun _ => next h2 q2.2, fun q => absurd rfl q⟩)⟩)⟩
    refine ⟨fun _ => ?_, fun _ => ?_⟩
    · exact ⟨v1, v2, v3, kX, (p_most h hI _ _ _).mono (fun r h1 kp q => by
        obtain ⟨w, e, cc⟩ := q
        exact ⟨w, e, v1, v2, v3, kY.up kp, cc.mono (fun r2 h2 kp2 q2 => ⟨w, q2.1, fun _ => next h2 q2.2, fun q => absurd rfl q⟩)⟩)⟩
    refine ⟨fun _ => ?_, fun _ => ?_⟩
    · exact ⟨v1, kX, (p_nests h hI _).mono (fun r h1 kp q => by
        obtain ⟨w, e, cc⟩ := q
        exact ⟨w, e, v1, kY.up kp, cc.mono (fun r2 h2 kp2 q2 => ⟨w, q2.1, fun _ => next h2 q2.2, fun q => absurd rfl q⟩)⟩)⟩
    refine ⟨fun _ => ?_, fun _ => ?_⟩
    · exact ⟨v1, v2, kX, (p_between h hI _ _).mono (fun r h1 kp q => by
        obtain ⟨w, e, cc⟩ := q
        exact ⟨w, e, v1, v2, kY.up kp, cc.mono (fun r2 h2 kp2 q2 => ⟨w, q2.1, fun _ => next h2 q2.2, fun q => absurd rfl q⟩)⟩)⟩
    refine ⟨fun _ => ?_, fun _ => ?_⟩
    · exact ⟨v1, v2, v3, v4, v5, v6, kX, (p_way h hI _ _ _ _ _ _).mono (fun r h1 kp q => by
        obtain ⟨w, e, cc⟩ := q
        exact ⟨w, e, v1, v2, v3, v4, v5, v6, kY.up kp, cc.mono (fun r2 h2 kp2 q2 => ⟨w, q2.1, fun _ => next h2 q2.2, fun q => absurd rfl q⟩)⟩)⟩
    refine ⟨fun _ => ?_, fun _ => ?_⟩
    · exact ⟨v1, v2, v3, v4, v5, v6, kX, (p_errand h hI _ _ _ _ _ _).mono (fun r h1 kp q => by
        obtain ⟨w, e, cc⟩ := q
        exact ⟨w, e, v1, v2, v3, v4, v5, v6, kY.up kp, cc.mono (fun r2 h2 kp2 q2 => ⟨w, q2.1, fun _ => next h2 q2.2, fun q => absurd rfl q⟩)⟩)⟩
    refine ⟨fun _ => ?_, fun _ => ?_⟩
    · exact ⟨v1, kX, (p_sum h hI _).mono (fun r h1 kp q => by
        obtain ⟨w, e, cc⟩ := q
        exact ⟨w, e, v1, kY.up kp, cc.mono (fun r2 h2 kp2 q2 => ⟨w, q2.1, fun _ => next h2 q2.2, fun q => absurd rfl q⟩)⟩)⟩
    refine ⟨fun _ => ?_, fun _ => ?_⟩
    · exact ⟨v1, v2, kX, (p_where h hI _ _).mono (fun r h1 kp q => by
        obtain ⟨w, e, cc⟩ := q
        exact ⟨w, e, v1, v2, kY.up kp, cc.mono (fun r2 h2 kp2 q2 => ⟨w, q2.1, fun _ => next h2 q2.2, fun q => absurd rfl q⟩)⟩)⟩
    refine ⟨fun _ => ?_, fun _ => ?_⟩
    · exact ⟨v1, kX, (p_gains h hI _).mono (fun r h1 kp q => by
        obtain ⟨w, e, cc⟩ := q
        exact ⟨w, e, v1, kY.up kp, cc.mono (fun r2 h2 kp2 q2 => ⟨w, q2.1, fun _ => next h2 q2.2, fun q => absurd rfl q⟩)⟩)⟩
    refine ⟨fun _ => ?_, fun _ => ?_⟩
    · exact ⟨v1, kX, (p_seed h hI _).mono (fun r h1 kp q => by
        obtain ⟨w, e, cc⟩ := q
        exact ⟨w, e, v1, kY.up kp, cc.mono (fun r2 h2 kp2 q2 => ⟨w, q2.1, fun _ => next h2 q2.2, fun q => absurd rfl q⟩)⟩)⟩
    refine ⟨fun _ => ?_, fun _ => ?_⟩
    · exact ⟨v1, v2, kX, (p_years h hI _ _).mono (fun r h1 kp q => by
        obtain ⟨w, e, cc⟩ := q
        exact ⟨w, e, v1, v2, kY.up kp, cc.mono (fun r2 h2 kp2 q2 => ⟨w, q2.1, fun _ => next h2 q2.2, fun q => absurd rfl q⟩)⟩)⟩
    refine ⟨fun _ => ?_, fun _ => ?_⟩
    · exact ⟨v1, v2, v3, kX, (p_after h hI _ _ _).mono (fun r h1 kp q => by
        obtain ⟨w, e, cc⟩ := q
        exact ⟨w, e, v1, v2, v3, kY.up kp, cc.mono (fun r2 h2 kp2 q2 => ⟨w, q2.1, fun _ => next h2 q2.2, fun q => absurd rfl q⟩)⟩)⟩
    refine ⟨fun _ => ?_, fun _ => ?_⟩
    · exact ⟨v1, kX, (p_count h hI _).mono (fun r h1 kp q => by
        obtain ⟨w, e, cc⟩ := q
        exact ⟨w, e, v1, kY.up kp, cc.mono (fun r2 h2 kp2 q2 => ⟨w, q2.1, fun _ => next h2 q2.2, fun q => absurd rfl q⟩)⟩)⟩
    refine ⟨fun _ => ?_, fun _ => ?_⟩
    · exact ⟨v1, kX, (p_image h hI _).mono (fun r h1 kp q => by
        obtain ⟨w, e, cc⟩ := q
        exact ⟨w, e, v1, kY.up kp, cc.mono (fun r2 h2 kp2 q2 => ⟨w, q2.1, fun _ => next h2 q2.2, fun q => absurd rfl q⟩)⟩)⟩
    refine ⟨fun _ => ?_, fun _ => ?_⟩
    · exact ⟨v1, kX, (p_back h hI _).mono (fun r h1 kp q => by
        obtain ⟨w, e, cc⟩ := q
        exact ⟨w, e, v1, kY.up kp, cc.mono (fun r2 h2 kp2 q2 => ⟨w, q2.1, fun _ => next h2 q2.2, fun q => absurd rfl q⟩)⟩)⟩
    exact next h hI
/-- THE LAW out of an invariant -/
theorem main_of (Inv : GG → Nat → HP → Prop) (hk : ∀ G u0 h, Inv G u0 h → Kd G h G.1 11 ∧ Kd G h (G.1 + 119) 12) (hbud : ∀ G u0 h, Inv G u0 h → hZ h ≤ G.1 + 600000 ∧ hU h ≤ u0 + 7302250)
    (hinit : ∀ (G : GG) (h : HP), G.1 = hZ h → Cal G 59 mX11_init [.ref G.1] (nw h 11 16) (fun r h7 => r = none ∧ hZ h7 = G.1 + 119 ∧ Cal G 59 mX12_init [.ref (G.1 + 119)] (nw h7 12 51) (fun r2 h15 => r2 = none ∧ Inv G (hU h) h15)))
    (p_feed : ∀ G u0, ∀ h, Inv G u0 h → ∀ x1 x2 x3 x4 x5 : Int32, Pr (Inv G u0) G G.1 (G.1 + 119) mX11_feed mX12_feed [.int x1, .int x2, .int x3, .int x4, .int x5] h) (p_end : ∀ G u0, ∀ h, Inv G u0 h → ∀ x1 : Int32, Pr (Inv G u0) G G.1 (G.1 + 119) mX11_end mX12_end [.int x1] h) (p_land : ∀ G u0, ∀ h, Inv G u0 h → Pr (Inv G u0) G G.1 (G.1 + 119) mX11_land mX12_land [] h) (p_text : ∀ G u0, ∀ h, Inv G u0 h → ∀ x1 : Int32, Pr (Inv G u0) G G.1 (G.1 + 119) mX11_text mX12_text [.int x1] h) (p_like : ∀ G u0, ∀ h, Inv G u0 h → ∀ x1 x2 x3 : Int32, Pr (Inv G u0) G G.1 (G.1 + 119) mX11_like mX12_like [.int x1, .int x2, .int x3] h) (p_can : ∀ G u0, ∀ h, Inv G u0 h → ∀ x1 x2 x3 x4 x5 x6 x7 x8 : Int32, Pr (Inv G u0) G G.1 (G.1 + 119) mX11_can mX12_can [.int x1, .int x2, .int x3, .int x4, .int x5, .int x6, .int x7, .int x8] h) (p_build : ∀ G u0, ∀ h, Inv G u0 h → ∀ x1 x2 x3 x4 x5 x6 x7 x8 : Int32, Pr (Inv G u0) G G.1 (G.1 + 119) mX11_build mX12_build [.int x1, .int x2, .int x3, .int x4, .int x5, .int x6, .int x7, .int x8] h) (p_wish : ∀ G u0, ∀ h, Inv G u0 h → ∀ x1 x2 x3 x4 x5 x6 x7 x8 : Int32, PrL (Inv G u0) G G.1 (G.1 + 119) mX11_wish mX12_wish [.int x1, .int x2, .int x3, .int x4, .int x5, .int x6, .int x7, .int x8] h) (p_pull : ∀ G u0, ∀ h, Inv G u0 h → ∀ x1 : Int32, Pr (Inv G u0) G G.1 (G.1 + 119) mX11_pull mX12_pull [.int x1] h) (p_gate : ∀ G u0, ∀ h, Inv G u0 h → ∀ x1 x2 x3 x4 : Int32, Pr (Inv G u0) G G.1 (G.1 + 119) mX11_gate mX12_gate [.int x1, .int x2, .int x3, .int x4] h) (p_key : ∀ G u0, ∀ h, Inv G u0 h → ∀ x1 x2 x3 : Int32, x3 = 0 ∨ x3 = 1 → Pr (Inv G u0) G G.1 (G.1 + 119) mX11_key mX12_key [.int x1, .int x2, .int x3] h) (p_thing : ∀ G u0, ∀ h, Inv G u0 h → ∀ x1 x2 : Int32, Pr (Inv G u0) G G.1 (G.1 + 119) mX11_thing mX12_thing [.int x1, .int x2] h) (p_cell : ∀ G u0, ∀ h, Inv G u0 h → ∀ x1 x2 x3 : Int32, Pr (Inv G u0) G G.1 (G.1 + 119) mX11_cell mX12_cell [.int x1, .int x2, .int x3] h) (p_inside : ∀ G u0, ∀ h, Inv G u0 h → ∀ x1 x2 : Int32, Pr (Inv G u0) G G.1 (G.1 + 119) mX11_inside mX12_inside [.int x1, .int x2] h) (p_best : ∀ G u0, ∀ h, Inv G u0 h → ∀ x1 x2 x3 x4 x5 x6 x7 : Int32, Pr (Inv G u0) G G.1 (G.1 + 119) mX11_best mX12_best [.int x1, .int x2, .int x3, .int x4, .int x5, .int x6, .int x7] h) (p_ahead : ∀ G u0, ∀ h, Inv G u0 h → ∀ x1 x2 x3 x4 x5 x6 x7 : Int32, Pr (Inv G u0) G G.1 (G.1 + 119) mX11_ahead mX12_ahead [.int x1, .int x2, .int x3, .int x4, .int x5, .int x6, .int x7] h) (p_least : ∀ G u0, ∀ h, Inv G u0 h → ∀ x1 x2 x3 x4 x5 : Int32, Pr (Inv G u0) G G.1 (G.1 + 119) mX11_least mX12_least [.int x1, .int x2, .int x3, .int x4, .int x5] h) (p_most : ∀ G u0, ∀ h, Inv G u0 h → ∀ x1 x2 x3 : Int32, Pr (Inv G u0) G G.1 (G.1 + 119) mX11_most mX12_most [.int x1, .int x2, .int x3] h) (p_nests : ∀ G u0, ∀ h, Inv G u0 h → ∀ x1 : Int32, Pr (Inv G u0) G G.1 (G.1 + 119) mX11_nests mX12_nests [.int x1] h) (p_between : ∀ G u0, ∀ h, Inv G u0 h → ∀ x1 x2 : Int32, Pr (Inv G u0) G G.1 (G.1 + 119) mX11_between mX12_between [.int x1, .int x2] h) (p_way : ∀ G u0, ∀ h, Inv G u0 h → ∀ x1 x2 x3 x4 x5 x6 : Int32, Pr (Inv G u0) G G.1 (G.1 + 119) mX11_way mX12_way [.int x1, .int x2, .int x3, .int x4, .int x5, .int x6] h) (p_errand : ∀ G u0, ∀ h, Inv G u0 h → ∀ x1 x2 x3 x4 x5 x6 : Int32, Pr (Inv G u0) G G.1 (G.1 + 119) mX11_errand mX12_errand [.int x1, .int x2, .int x3, .int x4, .int x5, .int x6] h) (p_sum : ∀ G u0, ∀ h, Inv G u0 h → ∀ x1 : Int32, Pr (Inv G u0) G G.1 (G.1 + 119) mX11_sum mX12_sum_ [.int x1] h) (p_where : ∀ G u0, ∀ h, Inv G u0 h → ∀ x1 x2 : Int32, Pr (Inv G u0) G G.1 (G.1 + 119) mX11_where mX12_where [.int x1, .int x2] h) (p_gains : ∀ G u0, ∀ h, Inv G u0 h → ∀ x1 : Int32, Pr (Inv G u0) G G.1 (G.1 + 119) mX11_gains mX12_gains [.int x1] h) (p_seed : ∀ G u0, ∀ h, Inv G u0 h → ∀ x1 : Int32, Pr (Inv G u0) G G.1 (G.1 + 119) mX11_seed mX12_seed [.int x1] h) (p_years : ∀ G u0, ∀ h, Inv G u0 h → ∀ x1 x2 : Int32, Pr (Inv G u0) G G.1 (G.1 + 119) mX11_years mX12_years [.int x1, .int x2] h) (p_after : ∀ G u0, ∀ h, Inv G u0 h → ∀ x1 x2 x3 : Int32, Pr (Inv G u0) G G.1 (G.1 + 119) mX11_after mX12_after [.int x1, .int x2, .int x3] h) (p_count : ∀ G u0, ∀ h, Inv G u0 h → ∀ x1 : Int32, Pr (Inv G u0) G G.1 (G.1 + 119) mX11_count mX12_count [.int x1] h) (p_image : ∀ G u0, ∀ h, Inv G u0 h → ∀ x1 : Int32, Pr (Inv G u0) G G.1 (G.1 + 119) mX11_image mX12_image [.int x1] h) (p_back : ∀ G u0, ∀ h, Inv G u0 h → ∀ x1 : Int32, Pr (Inv G u0) G G.1 (G.1 + 119) mX11_back mX12_back [.int x1] h) :
    ∀ (G : GG) (h : HP), G.1 = hZ h → G.2.2.1 ≤ 4608 → Ex G 60 mL_law 0 [(0, .ref (G.2.1 3))] [] h (fun r h2 => r = some (.int 1) ∧ hZ h2 ≤ hZ h + 600000 ∧ hU h2 ≤ hU h + 7302250) := by
  intro G h hG hL
  refine t_L_law (by omega) ?_
  unfold T_L_law
  intro q1 h2 e1 e2
  subst e1 e2
  rw [← hG]
  refine (hinit G h hG).mono (fun r h7 kp q => ?_)
  obtain ⟨rfl, hz, hc⟩ := q
  refine ⟨rfl, fun q9 h10 e1 e2 => ?_⟩
  subst e1 e2
  rw [hz]
  refine hc.mono (fun r2 h15 kp2 q => ?_)
  obtain ⟨rfl, hI⟩ := q
  refine ⟨rfl, ?_⟩
  exact law_loop (Inv G (hU h)) hL (hk G (hU h)) (fun h3 hI3 => ⟨rfl, by have := hbud G _ h3 hI3; omega, by have := hbud G _ h3 hI3; omega⟩) (p_feed G (hU h)) (p_end G (hU h)) (p_land G (hU h)) (p_text G (hU h)) (p_like G (hU h)) (p_can G (hU h)) (p_build G (hU h)) (p_wish G (hU h)) (p_pull G (hU h)) (p_gate G (hU h)) (p_key G (hU h)) (p_thing G (hU h)) (p_cell G (hU h)) (p_inside G (hU h)) (p_best G (hU h)) (p_ahead G (hU h)) (p_least G (hU h)) (p_most G (hU h)) (p_nests G (hU h)) (p_between G (hU h)) (p_way G (hU h)) (p_errand G (hU h)) (p_sum G (hU h)) (p_where G (hU h)) (p_gains G (hU h)) (p_seed G (hU h)) (p_years G (hU h)) (p_after G (hU h)) (p_count G (hU h)) (p_image G (hU h)) (p_back G (hU h)) 4608 0 h15 hI (by omega) (by omega)
