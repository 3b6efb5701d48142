/-! the law: its code, checked (2) -/
theorem o_law6 : okCh 330 55 = true := by decide +kernel
theorem o_law7 : okCh 385 55 = true := by decide +kernel
theorem o_law8 : okCh 440 55 = true := by decide +kernel
theorem o_law9 : okCh 495 55 = true := by decide +kernel
theorem o_law10 : okCh 550 55 = true := by decide +kernel
theorem o_law11 : okCh 605 55 = true := by decide +kernel
