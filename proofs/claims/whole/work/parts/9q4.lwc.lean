/-! the law: its code, checked (4) -/
theorem o_law18 : okCh 990 55 = true := by decide +kernel
theorem o_law19 : okCh 1045 55 = true := by decide +kernel
theorem o_law20 : okCh 1100 55 = true := by decide +kernel
