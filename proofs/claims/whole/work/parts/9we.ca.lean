theorem lwd_28 : CaAt cL_law 2080 3 203 205 := @of_decide_eq_true _ (caDec cL_law 2080 3 203 205) (by decide +kernel)
theorem lwd_29 : CaAt cL_law 2160 1 206 208 := @of_decide_eq_true _ (caDec cL_law 2160 1 206 208) (by decide +kernel)
theorem lwd_30 : CpAt cL_law 2216 1 209 212 := @of_decide_eq_true _ (cpDec cL_law 2216 1 209 212) (by decide +kernel)
