/-! the law: its code, checked (3) -/
theorem o_law12 : okCh 660 55 = true := by decide +kernel
theorem o_law13 : okCh 715 55 = true := by decide +kernel
theorem o_law14 : okCh 770 55 = true := by decide +kernel
theorem o_law15 : okCh 825 55 = true := by decide +kernel
theorem o_law16 : okCh 880 55 = true := by decide +kernel
theorem o_law17 : okCh 935 55 = true := by decide +kernel
