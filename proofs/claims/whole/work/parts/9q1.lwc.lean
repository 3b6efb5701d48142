/-! the law: its code, checked (1) -/
theorem o_law0 : okCh 0 55 = true := by decide +kernel
theorem o_law1 : okCh 55 55 = true := by decide +kernel
theorem o_law2 : okCh 110 55 = true := by decide +kernel
theorem o_law3 : okCh 165 55 = true := by decide +kernel
theorem o_law4 : okCh 220 55 = true := by decide +kernel
theorem o_law5 : okCh 275 55 = true := by decide +kernel
