theorem sh_5fft : sh_5w false false true = true := by decide +kernel
theorem sh_5fff : sh_5w false false false = true := by decide +kernel
