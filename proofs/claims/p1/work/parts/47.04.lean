def sh_0X (k : Int32) : Term := .op2 .lushr sh_W (.int k)
def sh_0b (k : Int32) : Bool → s_F := s_by (.op2 .land (sh_0X k) (.long 255))
def sh_0g (v1 v2 v3 : Bool) : s_F := sh_0b 56 v1 ++ (sh_0b 48 v2 ++ sh_0b 40 v3)
def sh_0c : List (Bool → s_F) := [sh_0b 32, sh_0b 24, sh_0b 16, sh_0b 8, sh_0b 0]
noncomputable def sh_0w (v1 v2 v3 : Bool) : Bool := sh_wl sh_0c (fun F => sh_en (sh_0g v1 v2 v3 ++ F) sh_ts 0)
theorem sh_0ttt : sh_0w true true true = true := by decide +kernel
theorem sh_0ttf : sh_0w true true false = true := by decide +kernel
theorem sh_0tft : sh_0w true false true = true := by decide +kernel
theorem sh_0tff : sh_0w true false false = true := by decide +kernel
theorem sh_0ftt : sh_0w false true true = true := by decide +kernel
theorem sh_0ftf : sh_0w false true false = true := by decide +kernel
theorem sh_0fft : sh_0w false false true = true := by decide +kernel
theorem sh_0fff : sh_0w false false false = true := by decide +kernel
