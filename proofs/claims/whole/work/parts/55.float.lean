/-! ===== floats ===== -/
def M32 (K : Nat) (x : UInt32) : Prop := x.toNat % 2 ^ 31 < K * 2 ^ 23
def M64 (K : Nat) (x : UInt64) : Prop := x.toNat % 2 ^ 63 < K * 2 ^ 52
theorem nn32 {x : UInt32} (h : x.toNat % 2 ^ 31 ≤ 2139095040) : x &&& 0x7fffffff ≤ 0x7f800000 := by
  rw [UInt32.le_iff_toNat_le, UInt32.toNat_and]
  have h1 : (0x7fffffff : UInt32).toNat = 2 ^ 31 - 1 := by decide
  have h2 : (0x7f800000 : UInt32).toNat = 2139095040 := by decide
  rw [h1, h2, Nat.and_two_pow_sub_one_eq_mod]
  exact h
theorem nn64 {x : UInt64} (h : x.toNat % 2 ^ 63 ≤ 9218868437227405312) : x &&& 0x7fffffffffffffff ≤ 0x7ff0000000000000 := by
  rw [UInt64.le_iff_toNat_le, UInt64.toNat_and]
  have h1 : (0x7fffffffffffffff : UInt64).toNat = 2 ^ 63 - 1 := by decide
  have h2 : (0x7ff0000000000000 : UInt64).toNat = 9218868437227405312 := by decide
  rw [h1, h2, Nat.and_two_pow_sub_one_eq_mod]
  exact h
theorem M32.nn {K : Nat} {x : UInt32} (h : M32 K x) (hK : K ≤ 255) : x &&& 0x7fffffff ≤ 0x7f800000 := nn32 (by unfold M32 at h; omega)
theorem M64.nn {K : Nat} {x : UInt64} (h : M64 K x) (hK : K ≤ 2047) : x &&& 0x7fffffffffffffff ≤ 0x7ff0000000000000 := nn64 (by unfold M64 at h; omega)
theorem M32.mono {K K2 : Nat} {x : UInt32} (h : M32 K x) (hK : K ≤ K2) : M32 K2 x := Nat.lt_of_lt_of_le h (Nat.mul_le_mul_right _ hK)
theorem M32.fin {K : Nat} {x : UInt32} (h : M32 K x) (hK : K ≤ 255) : Jvm.FP.Core.FFin x := Jvm.FP.Core.fin_of_lt32 h hK
theorem M64.fin {K : Nat} {x : UInt64} (h : M64 K x) (hK : K ≤ 2047) : Jvm.FP.Core.DFin x := Jvm.FP.Core.fin_of_lt h hK
theorem m32_i2f (v : Int32) : M32 160 (FP.i2f v) := Jvm.FP.Core.i2f_mag v
theorem m32_l2f (v : Int64) : M32 192 (FP.l2f v) := Jvm.FP.Core.l2f_mag v
theorem m64_i2d (v : Int32) : M64 1056 (FP.i2d v) := Jvm.FP.Core.i2d_mag v
theorem m64_l2d (v : Int64) : M64 1088 (FP.l2d v) := Jvm.FP.Core.l2d_mag v
theorem m32_mul {Ka Kb : Nat} {a b : UInt32} (ha : M32 Ka a) (hb : M32 Kb b) (hKa : Ka ≤ 255) (hKb : Kb ≤ 255) : M32 (Ka + Kb - 129 + 3) (FP.fmul a b) := Jvm.FP.Core.fmul_mag ha hb hKa hKb
theorem m32_add {K : Nat} {a b : UInt32} (ha : M32 K a) (hb : M32 K b) (hK : K ≤ 255) : M32 (K + 2) (FP.fadd a b) := Jvm.FP.Core.fadd_mag ha hb hK
theorem m32_sub {K : Nat} {a b : UInt32} (ha : M32 K a) (hb : M32 K b) (hK : K ≤ 255) : M32 (K + 2) (FP.fsub a b) := Jvm.FP.Core.fsub_mag ha hb hK
theorem m64_mul {Ka Kb : Nat} {a b : UInt64} (ha : M64 Ka a) (hb : M64 Kb b) (hKa : Ka ≤ 2047) (hKb : Kb ≤ 2047) : M64 (Ka + Kb - 1025 + 3) (FP.dmul a b) := Jvm.FP.Core.dmul_mag ha hb hKa hKb
theorem m32_div {K : Nat} {a : UInt32} {v : Int32} (ha : M32 K a) (hK2 : 2 ≤ K) (hK : K ≤ 255) (hv : v.toInt ≠ 0) : M32 (K + 1) (FP.fdiv a (FP.i2f v)) := by
  obtain ⟨b1, b2⟩ := Jvm.FP.Core.i2f_big hv
  have := Jvm.FP.Core.fdiv_mag (L := 127) ha b1 b2 hK (by decide)
  unfold M32
  have e : K + (149 - 23 - 1) - 127 + 3 ≤ K + 1 := by omega
  exact Nat.lt_of_lt_of_le this (Nat.mul_le_mul_right _ e)
/-- of a number that isn't below 1: how it is written -/
theorem shape32 {a : UInt32} (h1 : 127 * 2 ^ 23 ≤ a.toNat % 2 ^ 31) (h2 : a.toNat % 2 ^ 31 < 255 * 2 ^ 23) : ∃ (s : Bool) (c : Nat) (q : Int), Jvm.FP.Core.val32 a = .fin s c q ∧ 2 ^ 23 ≤ c ∧ c < 2 ^ 24 ∧ -23 ≤ q ∧ q ≤ 104 := by
  have hm : Jvm.FP.Core.mag Jvm.FP.Core.b32 a.toNat = a.toNat % 2 ^ 31 := Jvm.FP.Core.mag_toNat32 a
  have ht : Jvm.FP.Core.b32.tails = 2 ^ 23 := Jvm.FP.Core.tails_b32
  have he : Jvm.FP.Core.b32.exps - 1 = 255 := Jvm.FP.Core.exps_b32
  have hq : Jvm.FP.Core.b32.qmin = -149 := Jvm.FP.Core.qmin_b32
  have hE : Jvm.FP.Core.fieldE Jvm.FP.Core.b32 a.toNat = (a.toNat % 2 ^ 31) / 2 ^ 23 := by rw [Jvm.FP.Core.fieldE_mag, hm, ht]
  have hT : Jvm.FP.Core.fieldT Jvm.FP.Core.b32 a.toNat < 2 ^ 23 := by rw [← ht]; exact Jvm.FP.Core.fieldT_lt _ _
  have hE1 : 127 ≤ (a.toNat % 2 ^ 31) / 2 ^ 23 := by omega
  have hE2 : (a.toNat % 2 ^ 31) / 2 ^ 23 < 255 := by omega
  refine ⟨Jvm.FP.Core.fieldS Jvm.FP.Core.b32 a.toNat, 2 ^ 23 + Jvm.FP.Core.fieldT Jvm.FP.Core.b32 a.toNat, -149 + (((a.toNat % 2 ^ 31) / 2 ^ 23 : Nat) : Int) - 1, ?_, by omega, by omega, by omega, by omega⟩
  unfold Jvm.FP.Core.val32 Jvm.FP.Core.decode
  rw [if_neg (by rw [hE, he]; omega), if_neg (by rw [hE]; omega), ht, hq, hE]
  congr 1
  omega
theorem shape64 {a : UInt64} (h1 : 1023 * 2 ^ 52 ≤ a.toNat % 2 ^ 63) (h2 : a.toNat % 2 ^ 63 < 2047 * 2 ^ 52) : ∃ (s : Bool) (c : Nat) (q : Int), Jvm.FP.Core.val64 a = .fin s c q ∧ 2 ^ 52 ≤ c ∧ c < 2 ^ 53 ∧ -52 ≤ q ∧ q ≤ 971 := by
  have hm : Jvm.FP.Core.mag Jvm.FP.Core.b64 a.toNat = a.toNat % 2 ^ 63 := Jvm.FP.Core.mag_toNat64 a
  have ht : Jvm.FP.Core.b64.tails = 2 ^ 52 := Jvm.FP.Core.tails_b64
  have he : Jvm.FP.Core.b64.exps - 1 = 2047 := Jvm.FP.Core.exps_b64
  have hq : Jvm.FP.Core.b64.qmin = -1074 := Jvm.FP.Core.qmin_b64
  have hE : Jvm.FP.Core.fieldE Jvm.FP.Core.b64 a.toNat = (a.toNat % 2 ^ 63) / 2 ^ 52 := by rw [Jvm.FP.Core.fieldE_mag, hm, ht]
  have hT : Jvm.FP.Core.fieldT Jvm.FP.Core.b64 a.toNat < 2 ^ 52 := by rw [← ht]; exact Jvm.FP.Core.fieldT_lt _ _
  have hE1 : 1023 ≤ (a.toNat % 2 ^ 63) / 2 ^ 52 := by omega
  have hE2 : (a.toNat % 2 ^ 63) / 2 ^ 52 < 2047 := by omega
  refine ⟨Jvm.FP.Core.fieldS Jvm.FP.Core.b64 a.toNat, 2 ^ 52 + Jvm.FP.Core.fieldT Jvm.FP.Core.b64 a.toNat, -1074 + (((a.toNat % 2 ^ 63) / 2 ^ 52 : Nat) : Int) - 1, ?_, by omega, by omega, by omega, by omega⟩
  unfold Jvm.FP.Core.val64 Jvm.FP.Core.decode
  rw [if_neg (by rw [hE, he]; omega), if_neg (by rw [hE]; omega), ht, hq, hE]
  congr 1
  omega
theorem v8th32 : Jvm.FP.Core.val32 1040187392 = .fin false (2 ^ 23) (-26) := by decide +kernel
theorem v8_32 : Jvm.FP.Core.val32 1090519040 = .fin false (2 ^ 23) (-20) := by decide +kernel
theorem v8th64 : Jvm.FP.Core.val64 4593671619917905920 = .fin false (2 ^ 52) (-55) := by decide +kernel
theorem v8_64 : Jvm.FP.Core.val64 4620693217682128896 = .fin false (2 ^ 52) (-49) := by decide +kernel
/-- by 8, and times 8 again -/
theorem sc32 (v : Int64) : FP.fmul (FP.fmul (FP.l2f v) 1040187392) 1090519040 = FP.l2f v := by
  by_cases hv : v = 0
  · subst hv
    decide +kernel
  · obtain ⟨b1, b2⟩ := Jvm.FP.Core.l2f_big (Jvm.FP.Core.int64_ne hv)
    obtain ⟨s, c, q, e, c1, c2, q1, q2⟩ := shape32 b1 b2
    have hp : Jvm.FP.Core.b32.p = 24 := rfl
    have hqm : Jvm.FP.Core.b32.qmin = -149 := Jvm.FP.Core.qmin_b32
    have hqx : Jvm.FP.Core.b32.qmax = 104 := by decide
    have ht : Jvm.FP.Core.b32.tails = 2 ^ 23 := Jvm.FP.Core.tails_b32
    have hb : (s != false) = s := by cases s <;> rfl
    have e1 : Jvm.FP.Core.val32 (FP.fmul (FP.l2f v) 1040187392) = .fin s c (q - 3) := by
      show Jvm.FP.Core.val32 (Jvm.FP.Core.fmul _ _) = _
      rw [Jvm.FP.Core.val32_fmul, e, v8th32]
      show Jvm.FP.Core.roundRatio Jvm.FP.Core.b32 (s != false) (c * 2 ^ 23) 1 (q + -26) = _
      rw [hb]
      refine Jvm.FP.Core.roundRatio_exact Jvm.FP.Core.good_b32 (by decide) ⟨by rw [hp]; exact c2, by rw [hqm]; omega, by rw [hqx]; omega, Or.inr (by rw [ht]; exact c1)⟩ ?_
      rw [show (q + -26 - (q - 3)).toNat = 0 by omega, show (q - 3 - (q + -26)).toNat = 23 by omega]
      omega
    have e2 : Jvm.FP.Core.val32 (FP.fmul (FP.fmul (FP.l2f v) 1040187392) 1090519040) = .fin s c q := by
      show Jvm.FP.Core.val32 (Jvm.FP.Core.fmul _ _) = _
      rw [Jvm.FP.Core.val32_fmul, e1, v8_32]
      show Jvm.FP.Core.roundRatio Jvm.FP.Core.b32 (s != false) (c * 2 ^ 23) 1 (q - 3 + -20) = _
      rw [hb]
      refine Jvm.FP.Core.roundRatio_exact Jvm.FP.Core.good_b32 (by decide) ⟨by rw [hp]; exact c2, by rw [hqm]; omega, by rw [hqx]; omega, Or.inr (by rw [ht]; exact c1)⟩ ?_
      rw [show (q - 3 + -20 - q).toNat = 0 by omega, show (q - (q - 3 + -20)).toNat = 23 by omega]
      omega
    exact Jvm.FP.Core.val32_inj (by rw [e2]; exact Jvm.FP.Core.Datum.noConfusion) (by rw [e2, e])
theorem sc64 (v : Int64) : FP.dmul (FP.dmul (FP.l2d v) 4593671619917905920) 4620693217682128896 = FP.l2d v := by
  by_cases hv : v = 0
  · subst hv
    decide +kernel
  · obtain ⟨b1, b2⟩ := Jvm.FP.Core.l2d_big (Jvm.FP.Core.int64_ne hv)
    obtain ⟨s, c, q, e, c1, c2, q1, q2⟩ := shape64 b1 b2
    have hp : Jvm.FP.Core.b64.p = 53 := rfl
    have hqm : Jvm.FP.Core.b64.qmin = -1074 := Jvm.FP.Core.qmin_b64
    have hqx : Jvm.FP.Core.b64.qmax = 971 := by decide
    have ht : Jvm.FP.Core.b64.tails = 2 ^ 52 := Jvm.FP.Core.tails_b64
    have hb : (s != false) = s := by cases s <;> rfl
    have e1 : Jvm.FP.Core.val64 (FP.dmul (FP.l2d v) 4593671619917905920) = .fin s c (q - 3) := by
      show Jvm.FP.Core.val64 (Jvm.FP.Core.dmul _ _) = _
      rw [Jvm.FP.Core.val64_dmul, e, v8th64]
      show Jvm.FP.Core.roundRatio Jvm.FP.Core.b64 (s != false) (c * 2 ^ 52) 1 (q + -55) = _
      rw [hb]
      refine Jvm.FP.Core.roundRatio_exact Jvm.FP.Core.good_b64 (by decide) ⟨by rw [hp]; exact c2, by rw [hqm]; omega, by rw [hqx]; omega, Or.inr (by rw [ht]; exact c1)⟩ ?_
      rw [show (q + -55 - (q - 3)).toNat = 0 by omega, show (q - 3 - (q + -55)).toNat = 52 by omega]
      omega
    have e2 : Jvm.FP.Core.val64 (FP.dmul (FP.dmul (FP.l2d v) 4593671619917905920) 4620693217682128896) = .fin s c q := by
      show Jvm.FP.Core.val64 (Jvm.FP.Core.dmul _ _) = _
      rw [Jvm.FP.Core.val64_dmul, e1, v8_64]
      show Jvm.FP.Core.roundRatio Jvm.FP.Core.b64 (s != false) (c * 2 ^ 52) 1 (q - 3 + -49) = _
      rw [hb]
      refine Jvm.FP.Core.roundRatio_exact Jvm.FP.Core.good_b64 (by decide) ⟨by rw [hp]; exact c2, by rw [hqm]; omega, by rw [hqx]; omega, Or.inr (by rw [ht]; exact c1)⟩ ?_
      rw [show (q - 3 + -49 - q).toNat = 0 by omega, show (q - (q - 3 + -49)).toNat = 52 by omega]
      omega
    exact Jvm.FP.Core.val64_inj (by rw [e2]; exact Jvm.FP.Core.Datum.noConfusion) (by rw [e2, e])
