section
theorem zz_try1 : decode cX4_pull 0 = .ok (.iconst 0, 1) := dX4_pull_0
theorem zz_try2 : vwCl.length = 12 := rfl
end
