theorem sh_68_8 : sh_en [] (sh_a1 8) 68 = true := by decide +kernel
theorem sh_68_9 : sh_en [] (sh_a1 9) 68 = true := by decide +kernel
theorem sh_68_10 : sh_en [] (sh_a1 10) 68 = true := by decide +kernel
theorem sh_68_11 : sh_en [] (sh_a1 11) 68 = true := by decide +kernel
