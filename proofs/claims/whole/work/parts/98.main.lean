/-! ===== the law, for every script ===== -/
theorem law_main : ∀ (G : GG) (h : HP), G.1 = hZ h → G.2.2.1 ≤ 4608 → Ex G 60 mL_law 0 [(0, .ref (G.2.1 3))] [] h (fun r h2 => r = some (.int 1) ∧ hZ h2 ≤ hZ h + 600000 ∧ hU h2 ≤ hU h + 7302250) :=
  main_of Inv inv_k inv_bud inv_init p_feed p_end p_land p_text p_like p_can p_build p_wish p_pull p_gate p_key p_thing p_cell p_inside p_best p_ahead p_least p_most p_nests p_between p_way p_errand p_sum p_where p_gains p_seed p_years p_after p_count p_image p_back
