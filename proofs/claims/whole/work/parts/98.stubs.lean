theorem sim_line : simT_line Inv := by
  sorry
theorem sim_text : simT_text Inv := by
  sorry
theorem sim_force : simT_force Inv := by
  sorry
theorem sim_why : simT_why Inv := by
  sorry
theorem sim_unlike : simT_unlike Inv := by
  sorry
theorem sim_again : simT_again Inv := by
  sorry
theorem sim_who : simT_who Inv := by
  sorry
theorem sim_night : simT_night Inv := by
  sorry
theorem sim_sure : simT_sure Inv := by
  sorry
theorem sim_judge : simT_judge Inv := by
  sorry
theorem sim_best : simT_best Inv := by
  sorry
theorem sim_tried : simT_tried Inv := by
  sorry
