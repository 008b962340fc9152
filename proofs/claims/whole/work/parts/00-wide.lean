/-- rests on the library's laws of floats: the round is read over the whole library from here on -/
theorem fl_wide (a b : UInt32) : Jvm.FP.Core.val32 (Jvm.FP.Core.fadd a b) = Jvm.FP.Core.round Jvm.FP.Core.b32 (Jvm.FP.Core.exactSum (Jvm.FP.Core.val32 a) (Jvm.FP.Core.val32 b)) := Jvm.FP.Core.val32_fadd a b
