/-! what is left -/
theorem y_goal2 : yGoal2 := sorry
