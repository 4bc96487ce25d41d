theorem law_goal : LawGoal := sorry
