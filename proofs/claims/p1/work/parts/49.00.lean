/-! enter of a cell: by its number -/
theorem sh_68_0 : sh_en [] (sh_a1 0) 68 = true := by decide +kernel
theorem sh_68_1 : sh_en [] (sh_a1 1) 68 = true := by decide +kernel
theorem sh_68_2 : sh_en [] (sh_a1 2) 68 = true := by decide +kernel
theorem sh_68_3 : sh_en [] (sh_a1 3) 68 = true := by decide +kernel
