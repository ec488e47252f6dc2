theorem sim_tried : simT_tried Inv := by
  sorry
