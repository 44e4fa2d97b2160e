theorem pure_goal : PureGoal := sorry
