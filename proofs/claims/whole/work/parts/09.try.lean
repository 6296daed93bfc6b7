theorem zz_try : goodWord (Cond.initialized "a") = true := by decide +kernel
theorem zz_try2 : (tables_1.filter (fun w => !goodWord w)).length = 0 := by decide +kernel
