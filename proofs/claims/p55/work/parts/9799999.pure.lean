theorem mm_pure : mm_goal := lw_goal
