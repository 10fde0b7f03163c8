theorem mm_pure : mm_goal := by sorry
