/-! THE CALLS THAT LOOK AT NUMBERS OF 64 BITS, AND fault -/
def sh_W : Term := .op2 .lor (.op2 .lshl (.op1 .i2l (.arg 1)) (.int 32)) (.op2 .land (.op1 .i2l (.arg 2)) (.long 4294967295))
def sh_R : Term := .op2 .lrem sh_W (.long 32003)
def sh_5g (v1 v2 v3 : Bool) : s_F := s_q1 1 (.op2 .lcmp (.op2 .lxor sh_W (.long 32003)) (.long 0)) (.int 0) v1 ++ (s_q1 0 (.op2 .lcmp sh_R (.long 0)) (.int 0) v2 ++ s_q1 1 (.op2 .lcmp sh_R (.long 0)) (.int 0) v3)
def sh_5c : List (Bool → s_F) := [s_q1 0 (.op1 .l2i sh_R) (.int 0), s_q1 0 (.op2 .lcmp (.op2 .ladd sh_R (.long 32003)) (.long 0)) (.int 0), s_q1 0 (.op1 .l2i (.op2 .ladd sh_R (.long 32003))) (.int 0)]
noncomputable def sh_5w (v1 v2 v3 : Bool) : Bool := sh_wl sh_5c (fun F => sh_en (sh_5g v1 v2 v3 ++ F) sh_ts 5)
theorem sh_5ttt : sh_5w true true true = true := by decide +kernel
theorem sh_5ttf : sh_5w true true false = true := by decide +kernel
