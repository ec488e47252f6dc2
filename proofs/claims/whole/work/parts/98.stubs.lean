theorem sim_best : simT_best Inv := by
  sorry
theorem sim_tried : simT_tried Inv := by
  sorry
