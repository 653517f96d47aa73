/-! pair: all -/
theorem pr_all : a_pair Inv mX9_all mX10_all 5 51 1 := sorry
