theorem k_in0 : ∀ w ∈ u_ws RX0 TX0 7, w ∈ tables_1 ∧ goodWord w = true := by decide +kernel
theorem k_in1 : ∀ w ∈ u_ws RX1 TX1 6, w ∈ tables_1 ∧ goodWord w = true := by decide +kernel
theorem k_in2 : ∀ w ∈ u_ws RX2 TX2 5, w ∈ tables_1 ∧ goodWord w = true := by decide +kernel
theorem k_in3 : ∀ w ∈ u_ws RX3 TX3 18, w ∈ tables_1 ∧ goodWord w = true := by decide +kernel
theorem k_in4 : ∀ w ∈ u_ws RX4 TX4 6, w ∈ tables_1 ∧ goodWord w = true := by decide +kernel
theorem k_in5 : ∀ w ∈ u_ws RX5 TX5 9, w ∈ tables_1 ∧ goodWord w = true := by decide +kernel
theorem k_in6 : ∀ w ∈ u_ws RX6 TX6 9, w ∈ tables_1 ∧ goodWord w = true := by decide +kernel
theorem k_in7 : ∀ w ∈ u_ws RX7 TX7 5, w ∈ tables_1 ∧ goodWord w = true := by decide +kernel
theorem k_in8 : ∀ w ∈ u_ws RX8 TX8 11, w ∈ tables_1 ∧ goodWord w = true := by decide +kernel
theorem k_in9 : ∀ w ∈ u_ws RX9 TX9 12, w ∈ tables_1 ∧ goodWord w = true := by decide +kernel
theorem k_in10 : ∀ w ∈ u_ws RX10 TX10 11, w ∈ tables_1 ∧ goodWord w = true := by decide +kernel
theorem k_in11 : ∀ w ∈ u_ws RX11 TX11 16, w ∈ tables_1 ∧ goodWord w = true := by decide +kernel
theorem k_in12 : ∀ w ∈ u_ws RX12 TX12 51, w ∈ tables_1 ∧ goodWord w = true := by decide +kernel
theorem k_in (κ : Nat) (hκ : κ < 13) : ∀ w ∈ u_ws (kC κ) (kT κ) (kN κ), w ∈ tb := by
  intro w hw
  have key : w ∈ tables_1 ∧ goodWord w = true := by
    match κ, hκ, hw with
    | 0, _, hw => exact k_in0 w hw
    | 1, _, hw => exact k_in1 w hw
    | 2, _, hw => exact k_in2 w hw
    | 3, _, hw => exact k_in3 w hw
    | 4, _, hw => exact k_in4 w hw
    | 5, _, hw => exact k_in5 w hw
    | 6, _, hw => exact k_in6 w hw
    | 7, _, hw => exact k_in7 w hw
    | 8, _, hw => exact k_in8 w hw
    | 9, _, hw => exact k_in9 w hw
    | 10, _, hw => exact k_in10 w hw
    | 11, _, hw => exact k_in11 w hw
    | 12, _, hw => exact k_in12 w hw
  exact tb_t key.1 key.2
theorem k_ini (κ : Nat) (hκ : κ < 13) : Cond.instantiable (kC κ) (kN κ) ∈ tb ∧ Cond.initialized (kC κ) ∈ tb := by
  have key : ∀ κ, κ < 13 → (Cond.instantiable (kC κ) (kN κ) ∈ tables_1 ∧ goodWord (Cond.instantiable (kC κ) (kN κ)) = true) ∧ (Cond.initialized (kC κ) ∈ tables_1 ∧ goodWord (Cond.initialized (kC κ)) = true) := by decide +kernel
  exact ⟨tb_t (key κ hκ).1.1 (key κ hκ).1.2, tb_t (key κ hκ).2.1 (key κ hκ).2.2⟩
