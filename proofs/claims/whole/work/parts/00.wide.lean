/-! ===== the library's laws of floats are wanted: read over the whole library from the first part on ===== -/
theorem wd_zero : FP.Core.val32 FP.Core.fconst0 = .fin false 0 FP.Core.b32.qmin := FP.Core.val32_fconst0
