theorem sh_5tft : sh_5w true false true = true := by decide +kernel
theorem sh_5tff : sh_5w true false false = true := by decide +kernel
