theorem sh_68_4 : sh_en [] (sh_a1 4) 68 = true := by decide +kernel
theorem sh_68_5 : sh_en [] (sh_a1 5) 68 = true := by decide +kernel
theorem sh_68_6 : sh_en [] (sh_a1 6) 68 = true := by decide +kernel
theorem sh_68_7 : sh_en [] (sh_a1 7) 68 = true := by decide +kernel
