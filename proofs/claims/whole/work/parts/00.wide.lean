/-! ===== floats: what the library has, under names of our own ===== -/
theorem fw_mul {a b : UInt32} {Ka Kb : Nat} (ha : a.toNat % 2 ^ 31 < Ka * 2 ^ 23) (hb : b.toNat % 2 ^ 31 < Kb * 2 ^ 23) (hKa : Ka ≤ 255) (hKb : Kb ≤ 255) : (Jvm.FP.Core.fmul a b).toNat % 2 ^ 31 < (Ka + Kb - 129 + 3) * 2 ^ 23 := Jvm.FP.Core.fmul_mag ha hb hKa hKb
