/-! ===== the float format of the claim's floats ===== -/
theorem fp_good : FP.Core.Good FP.Core.b32 := FP.Core.good_b32
theorem fp_wide : FP.Core.Wide FP.Core.b32 := FP.Core.wide_b32
