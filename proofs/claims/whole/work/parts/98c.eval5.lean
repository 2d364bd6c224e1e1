/-! the same for five wires -/
theorem chk_5 : chk 5 (mvs 5 false) 15 [4294967295] = true := by decide +kernel
theorem chk_5l : chk 5 (mvs 5 true) 15 [4294967295] = true := by decide +kernel
