/-! the loss is never a NaN -/
theorem t_val32 (a b : UInt32) : Jvm.FP.Core.val32 (Jvm.FP.Core.fmul a b) = Jvm.FP.Core.round Jvm.FP.Core.b32 (Jvm.FP.Core.exactProduct (Jvm.FP.Core.val32 a) (Jvm.FP.Core.val32 b)) := Jvm.FP.Core.val32_fmul a b
