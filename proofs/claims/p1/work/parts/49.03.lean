theorem sh_68_12 : sh_en [] (sh_a1 12) 68 = true := by decide +kernel
theorem sh_68_13 : sh_en [] (sh_a1 13) 68 = true := by decide +kernel
theorem sh_68_14 : sh_en [] (sh_a1 14) 68 = true := by decide +kernel
theorem sh_68_15 : sh_en [] (sh_a1 15) 68 = true := by decide +kernel
