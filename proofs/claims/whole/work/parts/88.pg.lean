theorem pure_goal : PureG := sorry
