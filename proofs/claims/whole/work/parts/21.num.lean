/-! ===== numbers: rounding, and the small methods without a heap ===== -/
def fdv (a b : Int64) : Int64 := if a - a / b * b < 0 then a / b - 1 else a / b
/-- a by b, to the nearest, of two the even one -/
def RN (a b : Int64) : Int64 := if b < 2 * (a - fdv a b * b) then fdv a b + 1 else if 2 * (a - fdv a b * b) = b ∧ ¬ (fdv a b &&& 1) = 0 then fdv a b + 1 else fdv a b
theorem i64_z : (0 : Int64).toInt = 0 := rfl
theorem p_m_floor {a b : Int64} {ws : WS} (hb : ¬ b = 0) : Hr (F_X11_floor a b) ws (fun r t => r = fdv a b ∧ t = ws) := by
  unfold F_X11_floor
  refine hb_ck hb ?_
  refine hb_rt ?_
  refine hb_ck hb ?_
  refine hr_br (fun h => ?_) (fun h => ?_)
  · refine hr_rt ⟨?_, rfl⟩
    rw [lg_cmp_ge] at h
    unfold fdv
    rw [if_neg (Int64.not_lt.mpr h)]
  · refine hr_rt ⟨?_, rfl⟩
    rw [lg_cmp_ge] at h
    unfold fdv
    rw [if_pos (Int64.not_le.mp h)]
theorem p_m_rounded {a b : Int64} {ws : WS} (hb : ¬ b = 0) : Hr (F_X11_rounded a b) ws (fun r t => r = RN a b ∧ t = ws) := by
  unfold F_X11_rounded
  refine hb_c (p_m_floor hb) (fun q t h => ?_)
  obtain ⟨rfl, rfl⟩ := h
  refine hb_rt ?_
  unfold RN
  refine hr_br (fun h => ?_) (fun h => ?_)
  · rw [lg_cmp_gt] at h
    unfold j_X11_rounded_42
    refine hr_rt ⟨?_, rfl⟩
    rw [if_pos h]
  · rw [lg_cmp_gt] at h
    rw [if_neg h]
    refine hr_br (fun h2 => ?_) (fun h2 => ?_)
    · rw [lg_cmp_eq] at h2
      refine hr_br (fun h3 => ?_) (fun h3 => ?_)
      · rw [lg_cmp_eq] at h3
        refine hr_rt ⟨?_, rfl⟩
        rw [if_neg (fun z => z.2 h3)]
      · rw [lg_cmp_eq] at h3
        unfold j_X11_rounded_42
        refine hr_rt ⟨?_, rfl⟩
        rw [if_pos ⟨h2, h3⟩]
    · rw [lg_cmp_eq] at h2
      refine hr_rt ⟨?_, rfl⟩
      rw [if_neg (fun z => h2 z.1)]
theorem i64_xor_neg {a b : Int64} (hb : 0 < b) : 0 ≤ a ^^^ b ↔ 0 ≤ a := by
  have e : ∀ x : Int64, 0 ≤ x ↔ x.toBitVec.msb = false := by
    intro x
    rw [Int64.le_iff_toInt_le, i64_z]
    show 0 ≤ x.toBitVec.toInt ↔ _
    rw [BitVec.msb_eq_toInt]
    simp
  rw [e, e]
  have h2 : b.toBitVec.msb = false := (e b).mp (Int64.le_of_lt hb)
  rw [Int64.toBitVec_xor, BitVec.msb_xor, h2]
  simp
theorem p_floorDiv {a b : Int64} {ws : WS} (hb : 0 < b) : Hr (F_J9_floorDiv_f86c9 a b) ws (fun r t => r = fdv a b ∧ t = ws) := by
  have hb0 : ¬ b = 0 := fun h => by rw [h] at hb; exact absurd hb (by decide)
  have hbi : 0 < b.toInt := by rw [← i64_z]; exact Int64.lt_iff_toInt_lt.mp hb
  have hr := Jvm.Kit.i64_rem a b
  unfold F_J9_floorDiv_f86c9
  refine hb_ck hb0 ?_
  refine hb_rt ?_
  refine hr_br (fun h => ?_) (fun h => ?_)
  · rw [lg_cmp_ge, i64_xor_neg hb] at h
    refine hr_rt ⟨?_, rfl⟩
    unfold fdv
    rw [if_neg ?_]
    rw [Int64.lt_iff_toInt_lt, hr, i64_z]
    have h0 : 0 ≤ a.toInt := Jvm.Kit.i64_nonneg.mp h
    have := Int.tmod_nonneg b.toInt h0
    omega
  · rw [lg_cmp_ge, i64_xor_neg hb] at h
    have h0 : a.toInt < 0 := by
      have := Int64.not_le.mp h
      rw [Int64.lt_iff_toInt_lt, i64_z] at this
      exact this
    have ht : a.toInt.tmod b.toInt ≤ 0 := by
      have h1 : a.toInt.tmod b.toInt = -((-a.toInt).tmod b.toInt) := by rw [Int.neg_tmod, Int.neg_neg]
      have h2 := Int.tmod_nonneg b.toInt (show 0 ≤ -a.toInt by omega)
      omega
    refine hr_br (fun h2 => ?_) (fun h2 => ?_)
    · rw [lg_cmp_eq] at h2
      refine hr_rt ⟨?_, rfl⟩
      unfold fdv
      rw [if_neg ?_]
      rw [h2, Int64.sub_self]
      decide
    · rw [lg_cmp_eq] at h2
      refine hr_rt ⟨?_, rfl⟩
      unfold fdv
      rw [if_pos ?_]
      rw [Int64.lt_iff_toInt_lt, hr, i64_z]
      have h3 : a.toInt.tmod b.toInt ≠ 0 := by
        intro hz
        apply h2
        rw [hz] at hr
        have h4 : a - a / b * b = 0 := Int64.toInt_inj.mp (by rw [hr, i64_z])
        have h5 : a - a / b * b + a / b * b = 0 + a / b * b := by rw [h4]
        first
          | (rw [Int64.sub_add_cancel, Int64.zero_add] at h5; exact h5.symm)
          | (simp at h5; exact h5.symm)
      omega
theorem p_c_rounded {a b : Int64} {ws : WS} (hb : 0 < b) : Hr (F_X10_rounded a b) ws (fun r t => r = RN a b ∧ t = ws) := by
  unfold F_X10_rounded
  refine hr_t (by rw [lg_cmp_gt]; exact hb) ?_
  refine hb_c (p_floorDiv hb) (fun q t h => ?_)
  obtain ⟨rfl, rfl⟩ := h
  refine hb_rt ?_
  unfold RN
  refine hr_br (fun h => ?_) (fun h => ?_)
  · rw [lg_cmp_gt] at h
    unfold j_X10_rounded_50
    refine hr_rt ⟨?_, rfl⟩
    rw [if_pos h]
  · rw [lg_cmp_gt] at h
    rw [if_neg h]
    refine hr_br (fun h2 => ?_) (fun h2 => ?_)
    · rw [lg_cmp_eq] at h2
      refine hr_br (fun h3 => ?_) (fun h3 => ?_)
      · rw [lg_cmp_eq] at h3
        unfold j_X10_rounded_54
        refine hr_rt ⟨?_, rfl⟩
        rw [if_neg (fun z => z.2 h3)]
      · rw [lg_cmp_eq] at h3
        unfold j_X10_rounded_50
        refine hr_rt ⟨?_, rfl⟩
        rw [if_pos ⟨h2, h3⟩]
    · rw [lg_cmp_eq] at h2
      unfold j_X10_rounded_54
      refine hr_rt ⟨?_, rfl⟩
      rw [if_neg (fun z => h2 z.1)]
