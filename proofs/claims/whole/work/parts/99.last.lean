#print axioms mm_run_sim
