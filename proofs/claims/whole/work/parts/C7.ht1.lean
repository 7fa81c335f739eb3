set_option maxRecDepth 100000 in
theorem zht_1 : ((List.range 3).all fun k => (List.range 100).all fun d => decide (zm0 (3 + 2 * ((k + 3 : Nat) : Int) + 1) d = 0) && decide (zm0 96 (100 * ((k + 3 : Nat) : Int) + d) = 0)) = true := by decide +kernel
