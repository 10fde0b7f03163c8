theorem mm_pure : mm_goal := sorry
