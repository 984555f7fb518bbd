/-! BOTH, WHOLE: the mean. -/
def lay0 : Lay := ([], fun _ => 0, fun _ _ => 0, fun _ => 0, fun _ _ => 0, fun _ => 0)
def mem0 : Mem := (fun _ _ => 0, fun _ _ => 0)
theorem mean_all : ∀ s, s < 133 → ∀ n, n < 12 → ((FP.fdiv (FP.i2f (nI s)) (FP.i2f (nI (n + 1)))) &&& (0x7fffffff : UInt32) ≤ (0x7f800000 : UInt32)) ∧ sX4_bitsOf lay0 mem0 (FP.fdiv (FP.i2f (nI s)) (FP.i2f (nI (n + 1)))) = some (UInt32.toInt32 (FP.fdiv (FP.i2f (nI s)) (FP.i2f (nI (n + 1))))) ∧ sJxf58ca_floatToIntBits_5c35a lay0 mem0 (FP.fdiv (FP.i2f (nI s)) (FP.i2f (nI (n + 1)))) = some (UInt32.toInt32 (FP.fdiv (FP.i2f (nI s)) (FP.i2f (nI (n + 1))))) := by decide +kernel
