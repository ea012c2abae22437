theorem sh_5ftt : sh_5w false true true = true := by decide +kernel
theorem sh_5ftf : sh_5w false true false = true := by decide +kernel
