/-! ===== TABLES: their numbers ===== -/
/-- ENTRY k -/
def TE (v : Nat → Int32) (st k : Nat) : UInt32 := FP.fmul (FP.i2f (v (min (k * st) 4095))) 981668463
/-- LOOKUP at x -/
def TL (v : Nat → Int32) (st x : Nat) : UInt32 := FP.fadd (TE v st (x / st)) (FP.fmul (FP.fsub (TE v st (x / st + 1)) (TE v st (x / st))) (FP.fdiv (FP.i2f (nI (x - x / st * st))) (FP.i2f (nI st))))
def DA (d : UInt64) : UInt64 := if 0 ≤ Op.cmpValue (FP.dcmp d FP.dconst0) CmpOp.g then d else FP.dneg d
def TD (v : Nat → Int32) (st x : Nat) : UInt64 := FP.dsub (FP.f2d (TL v st x)) (FP.dmul (FP.i2d (v x)) 4562254508917369340)
/-- how far it is OFF at x -/
def TO (v : Nat → Int32) (st x : Nat) : UInt64 := DA (TD v st x)
/-- the least COUNT below x at which it is OFF most -/
def TB (v : Nat → Int32) (st : Nat) : Nat → Nat
  | 0 => 0
  | x + 1 => if x = 0 then 0 else if Op.cmpValue (FP.dcmp (TO v st x) (TO v st (TB v st x))) CmpOp.l ≤ 0 then TB v st x else x
theorem TB_lt {v : Nat → Int32} {st : Nat} : ∀ x, 1 ≤ x → TB v st x < x := by
  intro x
  induction x with
  | zero => intro h; omega
  | succ x ih =>
    intro _
    show (if x = 0 then 0 else if Op.cmpValue (FP.dcmp (TO v st x) (TO v st (TB v st x))) CmpOp.l ≤ 0 then TB v st x else x) < x + 1
    by_cases e : x = 0
    · rw [if_pos e]; omega
    · rw [if_neg e]
      have := ih (by omega)
      split <;> omega
theorem k001 : M32 118 981668463 := by unfold M32; decide +kernel
theorem kd001 : M64 1014 4562254508917369340 := by unfold M64; decide +kernel
theorem te_m {v : Nat → Int32} {st k : Nat} : M32 152 (TE v st k) := by
  unfold TE
  have h := m32_mul (m32_i2f (v (min (k * st) 4095))) k001 (by decide) (by decide)
  exact h
theorem isSt {st : Nat} (h : st = 16 ∨ st = 64 ∨ st = 256) : (nI st).toInt ≠ 0 ∧ ¬ nI st = 0 ∧ 0 < st ∧ st < 2 ^ 31 := by
  rcases h with rfl | rfl | rfl <;> decide
theorem part_m {st : Nat} {a : Int32} (h : st = 16 ∨ st = 64 ∨ st = 256) : M32 161 (FP.fdiv (FP.i2f a) (FP.i2f (nI st))) := m32_div (m32_i2f a) (by decide) (by decide) (isSt h).1
theorem sub_m {v : Nat → Int32} {st k j : Nat} : M32 154 (FP.fsub (TE v st k) (TE v st j)) := m32_sub te_m te_m (by decide)
theorem mul_m {v : Nat → Int32} {st k j : Nat} {a : Int32} (h : st = 16 ∨ st = 64 ∨ st = 256) : M32 189 (FP.fmul (FP.fsub (TE v st k) (TE v st j)) (FP.fdiv (FP.i2f a) (FP.i2f (nI st)))) := by
  have h := m32_mul (sub_m (v := v) (st := st) (k := k) (j := j)) (part_m (a := a) h) (by decide) (by decide)
  exact h
theorem tl_m {v : Nat → Int32} {st x : Nat} (h : st = 16 ∨ st = 64 ∨ st = 256) : M32 191 (TL v st x) := by
  unfold TL
  have h := m32_add (K := 189) (M32.mono (te_m (v := v) (st := st) (k := x / st)) (by decide)) (mul_m (v := v) (k := x / st + 1) (j := x / st) (a := nI (x - x / st * st)) h) (by decide)
  exact h
theorem f2d_fin {K : Nat} {x : UInt32} (h : M32 K x) (hK : K ≤ 255) : Jvm.FP.Core.DFin (FP.f2d x) := by
  have hf := h.fin hK
  have hn : Jvm.FP.Core.fIsNaN x = false := by
    rw [Jvm.FP.Core.notNaN_iff32]
    obtain ⟨s, c, q, e⟩ := hf
    rw [e]
    exact Jvm.FP.Core.Datum.noConfusion
  unfold FP.f2d
  rw [hn]
  exact Jvm.FP.Core.f2d_fin hf
theorem dfin_nn {x : UInt64} (h : Jvm.FP.Core.DFin x) : x &&& 0x7fffffffffffffff ≤ 0x7ff0000000000000 := nn64 (Nat.le_of_lt ((Jvm.FP.Core.fin_bits x).mp h))
theorem dv_m (v : Int32) : M64 1048 (FP.dmul (FP.i2d v) 4562254508917369340) := by
  have h := m64_mul (m64_i2d v) kd001 (by decide) (by decide)
  exact h
theorem td_n {v : Nat → Int32} {st x : Nat} (h : st = 16 ∨ st = 64 ∨ st = 256) : Jvm.FP.Core.dIsNaN (TD v st x) = false := Jvm.FP.Core.dsub_out (f2d_fin (tl_m h) (by decide)).notNaN ((dv_m _).fin (by decide))
theorem dn_bits {x : UInt64} (h : Jvm.FP.Core.dIsNaN x = false) : x.toNat % 2 ^ 63 ≤ 9218868437227405312 := by
  have h2 := Jvm.FP.Core.isNaN_bits x
  by_cases c : 9218868437227405312 < x.toNat % 2 ^ 63
  · rw [h2.mpr c] at h
    exact absurd h (by decide)
  · omega
theorem dn_nn {x : UInt64} (h : Jvm.FP.Core.dIsNaN x = false) : x &&& 0x7fffffffffffffff ≤ 0x7ff0000000000000 := nn64 (dn_bits h)
theorem dneg_bits (x : UInt64) : (FP.dneg x).toNat % 2 ^ 63 = x.toNat % 2 ^ 63 ∧ (2 ^ 63 ≤ x.toNat → (FP.dneg x).toNat < 2 ^ 63) := by
  unfold FP.dneg
  have z : (0x8000000000000000 : UInt64).toNat = 2 ^ 63 := by decide
  have e : (x ^^^ 0x8000000000000000).toNat = x.toNat ^^^ 2 ^ 63 := by rw [UInt64.toNat_xor, z]
  have hx : x.toNat < 2 ^ 64 := x.toNat_lt
  rw [e]
  have hm : (x.toNat ^^^ 2 ^ 63) % 2 ^ 63 = x.toNat % 2 ^ 63 := by rw [Nat.xor_mod_two_pow, Nat.mod_self, Nat.xor_zero]
  refine ⟨hm, fun h => ?_⟩
  have hd : (x.toNat ^^^ 2 ^ 63) / 2 ^ 63 = 0 := by
    rw [Nat.xor_div_two_pow, Nat.div_self (by decide), show x.toNat / 2 ^ 63 = 1 by omega]
    rfl
  have := Nat.div_eq_zero_iff.mp hd
  omega
/-- without sign it is above -1 -/
theorem da_pos {d : UInt64} (h : Jvm.FP.Core.dIsNaN d = false) : ¬ Op.cmpValue (FP.dcmp (DA d) 13830554455654793216) CmpOp.l ≤ 0 := by
  have hn : Jvm.FP.Core.val64 d ≠ .nan := (Jvm.FP.Core.notNaN_iff d).mp h
  have h0n : Jvm.FP.Core.val64 FP.dconst0 ≠ .nan := by decide +kernel
  have h1n : Jvm.FP.Core.val64 13830554455654793216 ≠ .nan := by decide +kernel
  have k0 : Jvm.FP.Core.dkey FP.dconst0 = 0 := by decide +kernel
  have k1 : Jvm.FP.Core.dkey 13830554455654793216 = -4607182418800017408 := by decide +kernel
  have hnn : Jvm.FP.Core.val64 (DA d) ≠ .nan ∧ 0 ≤ Jvm.FP.Core.dkey (DA d) := by
    unfold DA
    by_cases c : 0 ≤ Op.cmpValue (FP.dcmp d FP.dconst0) CmpOp.g
    · rw [if_pos c]
      refine ⟨hn, ?_⟩
      by_cases ck : Jvm.FP.Core.dkey d < 0
      · have hl : Jvm.FP.Core.dcmp d FP.dconst0 = some .lt := (Jvm.FP.Core.dcmp_lt_key hn h0n).mpr (by rw [k0]; exact ck)
        rw [show FP.dcmp d FP.dconst0 = some .lt from hl] at c
        exact absurd c (by decide)
      · omega
    · rw [if_neg c]
      have hneg : 2 ^ 63 ≤ d.toNat := by
        by_cases hd : 2 ^ 63 ≤ d.toNat
        · exact hd
        · exfalso
          have hk : 0 ≤ Jvm.FP.Core.dkey d := by
            unfold Jvm.FP.Core.dkey
            rw [if_neg hd]
            omega
          apply c
          by_cases hz : Jvm.FP.Core.dkey d = 0
          · have hl : Jvm.FP.Core.dcmp d FP.dconst0 = some .eq := (Jvm.FP.Core.dcmp_eq_key hn h0n).mpr (by rw [k0]; exact hz)
            rw [show FP.dcmp d FP.dconst0 = some .eq from hl]
            decide
          · have hl : Jvm.FP.Core.dcmp d FP.dconst0 = some .gt := (Jvm.FP.Core.dcmp_gt_key hn h0n).mpr (by rw [k0]; omega)
            rw [show FP.dcmp d FP.dconst0 = some .gt from hl]
            decide
      obtain ⟨e1, e2⟩ := dneg_bits d
      have e3 := e2 hneg
      refine ⟨(Jvm.FP.Core.ne_nan _).mpr (by rw [e1]; exact dn_bits h), ?_⟩
      unfold Jvm.FP.Core.dkey
      rw [if_neg (by omega)]
      omega
  have hl : Jvm.FP.Core.dcmp (DA d) 13830554455654793216 = some .gt := (Jvm.FP.Core.dcmp_gt_key hnn.1 h1n).mpr (by rw [k1]; omega)
  rw [show FP.dcmp (DA d) 13830554455654793216 = some .gt from hl]
  decide
