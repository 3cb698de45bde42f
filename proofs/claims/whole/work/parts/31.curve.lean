/-! ===== curves: what is told of them ===== -/
def nvl (x : Int64) : Int32 := (if (if x < (1000000 : Int64) then x else (1000000 : Int64)) < (-1000000 : Int64) then (-1000000 : Int64) else (if x < (1000000 : Int64) then x else (1000000 : Int64))).toInt32
def ncl (x : Int32) : Int32 := if (0 : Int32) < (if x < (4095 : Int32) then x else (4095 : Int32)) then (if x < (4095 : Int32) then x else (4095 : Int32)) else (0 : Int32)
theorem nI_ofInt {x : Int32} {n : Nat} (h0 : ¬ x < 0) (h : x < nI n) (hn : n < 2 ^ 31) : ∃ j, j < n ∧ x = nI j := by
  rcases ix_cases x n hn with a | ⟨j, hj, e, -, -⟩
  · rcases a with a | a
    · exact absurd a h0
    · exact absurd h (Int32.not_lt.mpr a)
  · exact ⟨j, hj, e⟩
theorem ncl_ix (x : Int32) : ∃ j, j < 4096 ∧ ncl x = nI j := by
  unfold ncl
  by_cases h : x < 4095
  · rw [if_pos h]
    by_cases h2 : 0 < x
    · rw [if_pos h2]
      obtain ⟨j, hj, e⟩ := nI_ofInt (n := 4095) (Int32.not_lt.mpr (Int32.le_of_lt h2)) h (by decide)
      exact ⟨j, by omega, e⟩
    · rw [if_neg h2]
      exact ⟨0, by decide, rfl⟩
  · rw [if_neg h, if_pos (by decide)]
    exact ⟨4095, by decide, rfl⟩
/-- the VALUE of PIECES at x, p KNOTS being up to x -/
def pvl (m : Nat) (fc fv : Nat → Int32) (x : Int32) (p : Nat) : Int32 := if p = 0 then fv 0 else if p = m then fv (p - 1) else (RN ((fv (p - 1)).toInt64 * (fc p - fc (p - 1)).toInt64 + (fv p - fv (p - 1)).toInt64 * (x - fc (p - 1)).toInt64) (fc p - fc (p - 1)).toInt64).toInt32
/-- the COUNTS of m KNOTS rise -/
def KS (m : Nat) (fc : Nat → Int32) : Prop := (∀ j, j < m → 0 ≤ (fc j).toInt ∧ (fc j).toInt ≤ 4095) ∧ ∀ i j, i < j → j < m → (fc i).toInt < (fc j).toInt
def RM (ca : Nat → Nat) (vl : Nat → Nat → Int32) (i j : Nat) (how f s t : Int32) (o : Option Nat) : Prop :=
  (how = 2 ∧ ∀ x, x < 4096 → vl i x = if f < (if vl j x < s then vl j x else s) then (if vl j x < s then vl j x else s) else f)
  ∨ (how = 3 ∧ ∀ x, x < 4096 → vl i x = if vl j x < f then vl j x else if s < vl j x then vl j x else t)
  ∨ (how = 4 ∧ ∃ l, l < i ∧ o = some (ca l) ∧ ∀ x, x < 4096 → vl i x = vl l (ncl (vl j x)).toNatClampNeg)
  ∨ (how = 5 ∧ 0 < s.toInt64 ∧ ∀ x, x < 4096 → vl i x = nvl (RN ((vl j x).toInt64 * f.toInt64) s.toInt64 + t.toInt64))
  ∨ (how = 6 ∧ ∀ x, x < 4096 → vl i x = vl j (4095 - x))
/-- what the curve i is made of -/
def ME (h : Nat → Option PE) (Z ca cc : Nat → Nat) (ce : Nat → List Value) (vl : Nat → Nat → Int32) (i : Nat) : Prop :=
  (cc i = 3 ∧ ∃ a b d : Int64, ce i = [.long a, .long b, .long d] ∧ 0 < d ∧ ∀ x, x < 4096 → vl i x = nvl (RN (a + b * (nI x).toInt64) d))
  ∨ (cc i = 4 ∧ ∃ (k m : Nat) (fc fv : Nat → Int32), ce i = [.ref k] ∧ K1 h k m fc fv ∧ (Z k = 4 ∧ Z (k + 1) = 4 ∧ Z (k + 2) = 4) ∧ 0 < m ∧ m ≤ 32 ∧ KS m fc ∧ ∀ x p, x < 4096 → p ≤ m → (∀ j, j < p → fc j ≤ nI x) → (∀ j, p ≤ j → j < m → nI x < fc j) → vl i x = pvl m fc fv (nI x) p)
  ∨ (cc i = 6 ∧ ∃ (how f s t : Int32) (j : Nat) (o : Option Nat), ce i = [.int how, .ref (ca j), va_rf o, .int f, .int s, .int t] ∧ j < i ∧ (o = none ∨ ∃ l, l < i ∧ o = some (ca l)) ∧ RM ca vl i j how f s t o)
/-- its row, if it is made -/
def RW (h : Nat → Option PE) (Z : Nat → Nat) (vl : Nat → Nat → Int32) (i : Nat) (rr : Option Nat) : Prop := rr = none ∨ ∃ (a : Nat) (f : Nat → Int32), rr = some a ∧ Z a = 4 ∧ h a = some (cI 4096 f) ∧ ∀ x, x < 4096 → f x = vl i x
def nd (r : Option Nat) : Nat := match r with
  | none => 1
  | some _ => 0
/-- up, down, neither: at x, against the COUNT ahead -/
def wy (v : Nat → Int32) (x : Nat) : Int32 := if v x = v (x - 1) then 0 else if v x ≤ v (x - 1) then -1 else 1
/-- ahead of x: the latest way, and how many TURNS -/
def ts (v : Nat → Int32) : Nat → Int32 × Nat
  | 0 => (0, 0)
  | x + 1 => if x = 0 then (0, 0) else if wy v x = 0 then ts v x else if wy v x = -(ts v x).1 then (wy v x, (ts v x).2 + 1) else (wy v x, (ts v x).2)
def isT (v : Nat → Int32) (x : Nat) : Prop := 1 ≤ x ∧ ¬ wy v x = 0 ∧ wy v x = -(ts v x).1
def ups (v : Nat → Int32) (n : Nat) : Prop := ∃ x, 1 ≤ x ∧ x < n ∧ v (x - 1) < v x
def downs (v : Nat → Int32) (n : Nat) : Prop := ∃ x, 1 ≤ x ∧ x < n ∧ v x < v (x - 1)
def FT (v : Nat → Int32) (tr : Int32) : Prop := (ups v 4096 ∧ downs v 4096 ∧ tr = 0) ∨ (ups v 4096 ∧ ¬ downs v 4096 ∧ tr = 1) ∨ (¬ ups v 4096 ∧ downs v 4096 ∧ tr = -1) ∨ (¬ ups v 4096 ∧ ¬ downs v 4096 ∧ tr = 2)
def isLo (v : Nat → Int32) (n : Nat) (a : Int32) : Prop := (∃ x, x < n ∧ v x = a) ∧ ∀ x, x < n → a ≤ v x
def isHi (v : Nat → Int32) (n : Nat) (a : Int32) : Prop := (∃ x, x < n ∧ v x = a) ∧ ∀ x, x < n → v x ≤ a
def FQ (v : Nat → Int32) (tr : Int32) (tc : Nat) (lo hi : Int32) : Prop := FT v tr ∧ tc = (ts v 4096).2 ∧ isLo v 4096 lo ∧ isHi v 4096 hi
def TQ (v : Nat → Int32) (f : Nat → Int32) : Prop := ∀ x, x < 4096 → isT v x → f (ts v x).2 = nI x
/-- its form, if it is made -/
def FM (h : Nat → Option PE) (Z : Nat → Nat) (vl : Nat → Nat → Int32) (kp : Nat → Nat) (i : Nat) (rr fm : Option Nat) : Prop := (fm = none ∧ nd rr + 3 ≤ kp i) ∨ ∃ (fa ra tc : Nat) (tr lo hi : Int32) (tn : Option Nat), fm = some fa ∧ Z fa = 6 + 2 * i ∧ rr = some ra ∧ h fa = some (ob 1 [.ref ra, .int tr, .int (nI tc), .int lo, .int hi, va_rf tn]) ∧ FQ (vl i) tr tc lo hi ∧ nd tn ≤ kp i ∧ (tn = none ∨ ∃ (ta : Nat) (f : Nat → Int32), tn = some ta ∧ Z ta = 4 ∧ h ta = some (cI tc f) ∧ TQ (vl i) f)
/-- the curve i, its cell being told -/
def CU (h : Nat → Option PE) (Z ca cc : Nat → Nat) (ce : Nat → List Value) (so : Nat → Int32) (wk : Nat → Nat) (vl : Nat → Nat → Int32) (kp : Nat → Nat) (i : Nat) : Prop := ∃ rr fm : Option Nat, h (ca i) = some (ob (cc i) (.int (so i) :: .int (nI (wk i)) :: va_rf rr :: va_rf fm :: ce i)) ∧ Z (ca i) = 5 + 2 * i ∧ ME h Z ca cc ce vl i ∧ RW h Z vl i rr ∧ FM h Z vl kp i rr fm
theorem ME.keep {h h2 : Nat → Option PE} {Z Z2 ca cc : Nat → Nat} {ce : Nat → List Value} {vl : Nat → Nat → Int32} {i : Nat} (hm : ME h Z ca cc ce vl i) (hq : ∀ q, Z q = 4 → Z2 q = 4 ∧ h2 q = h q) : ME h2 Z2 ca cc ce vl i := by
  rcases hm with a | ⟨a, k, m, fc, fv, b1, b2, b3, b4⟩ | a
  · exact Or.inl a
  · refine Or.inr (Or.inl ⟨a, k, m, fc, fv, b1, ?_, ⟨(hq _ b3.1).1, (hq _ b3.2.1).1, (hq _ b3.2.2).1⟩, b4⟩)
    obtain ⟨c1, c2, c3⟩ := b2
    exact ⟨(hq _ b3.1).2.trans c1, (hq _ b3.2.1).2.trans c2, (hq _ b3.2.2).2.trans c3⟩
  · exact Or.inr (Or.inr a)
theorem RW.keep {h h2 : Nat → Option PE} {Z Z2 : Nat → Nat} {vl : Nat → Nat → Int32} {i : Nat} {rr : Option Nat} (hm : RW h Z vl i rr) (hq : ∀ q, Z q = 4 → Z2 q = 4 ∧ h2 q = h q) : RW h2 Z2 vl i rr := by
  rcases hm with a | ⟨a, f, b1, b2, b3, b4⟩
  · exact Or.inl a
  · exact Or.inr ⟨a, f, b1, (hq _ b2).1, (hq _ b2).2.trans b3, b4⟩
theorem FM.keep {h h2 : Nat → Option PE} {Z Z2 : Nat → Nat} {vl : Nat → Nat → Int32} {kp kp2 : Nat → Nat} {i : Nat} {rr fm : Option Nat} (hm : FM h Z vl kp i rr fm) (hq : ∀ q, Z q = 4 ∨ Z q = 6 + 2 * i → Z2 q = Z q ∧ h2 q = h q) (hk : kp i ≤ kp2 i) : FM h2 Z2 vl kp2 i rr fm := by
  rcases hm with a | ⟨fa, ra, tc, tr, lo, hi, tn, b1, b2, b3, b4, b5, b6, b7⟩
  · exact Or.inl ⟨a.1, Nat.le_trans a.2 hk⟩
  · refine Or.inr ⟨fa, ra, tc, tr, lo, hi, tn, b1, (hq _ (Or.inr b2)).1.trans b2, b3, (hq _ (Or.inr b2)).2.trans b4, b5, Nat.le_trans b6 hk, ?_⟩
    rcases b7 with a | ⟨ta, f, c1, c2, c3, c4⟩
    · exact Or.inl a
    · exact Or.inr ⟨ta, f, c1, (hq _ (Or.inl c2)).1.trans c2, (hq _ (Or.inl c2)).2.trans c3, c4⟩
theorem CU.keep {h h2 : Nat → Option PE} {Z Z2 ca cc : Nat → Nat} {ce : Nat → List Value} {so : Nat → Int32} {wk : Nat → Nat} {vl : Nat → Nat → Int32} {kp kp2 : Nat → Nat} {i : Nat} (hm : CU h Z ca cc ce so wk vl kp i) (hq : ∀ q, Z q = 4 ∨ Z q = 5 + 2 * i ∨ Z q = 6 + 2 * i → Z2 q = Z q ∧ h2 q = h q) (hk : kp i ≤ kp2 i) : CU h2 Z2 ca cc ce so wk vl kp2 i := by
  obtain ⟨rr, fm, b1, b2, b3, b4, b5⟩ := hm
  refine ⟨rr, fm, (hq _ (Or.inr (Or.inl b2))).2.trans b1, (hq _ (Or.inr (Or.inl b2))).1.trans b2, b3.keep ?_, b4.keep ?_, b5.keep ?_ hk⟩
  · exact fun q e => ⟨(hq q (Or.inl e)).1.trans e, (hq q (Or.inl e)).2⟩
  · exact fun q e => ⟨(hq q (Or.inl e)).1.trans e, (hq q (Or.inl e)).2⟩
  · intro q e
    rcases e with e | e
    · exact hq q (Or.inl e)
    · exact hq q (Or.inr (Or.inr e))
/-- where Q holds of all up to some place and of none behind it -/
theorem ex_split {Q : Nat → Prop} : ∀ m : Nat, (∀ i j, i < j → j < m → Q j → Q i) → ∃ p, p ≤ m ∧ (∀ j, j < p → Q j) ∧ ∀ j, p ≤ j → j < m → ¬ Q j := by
  intro m
  induction m with
  | zero => intro _; exact ⟨0, Nat.le_refl _, fun j h => by omega, fun j _ h => by omega⟩
  | succ m ih =>
    intro h
    obtain ⟨p, p1, p2, p3⟩ := ih (fun i j a b => h i j a (by omega))
    by_cases hq : Q m
    · refine ⟨m + 1, Nat.le_refl _, fun j hj => ?_, fun j a b => by omega⟩
      by_cases e : j = m
      · rw [e]; exact hq
      · exact h j m (by omega) (by omega) hq
    · refine ⟨p, by omega, p2, fun j a b => ?_⟩
      by_cases e : j = m
      · rw [e]; exact hq
      · exact p3 j a (by omega)
/-- half of 2 ^ e, or 0 -/
def hf2 (e : Nat) : Nat := if e = 0 then 0 else 2 ^ (e - 1)
theorem hf2_s (e : Nat) : hf2 (e + 1) = 2 ^ e := by unfold hf2; rw [if_neg (by omega)]; rfl
theorem hf2_half (e : Nat) : 2 ^ e / 2 = hf2 e := by
  cases e with
  | zero => rfl
  | succ e => rw [hf2_s, Nat.pow_succ, Nat.mul_div_cancel _ (by decide)]
theorem two_le {e k : Nat} (h : e ≤ k) : 2 ^ e ≤ 2 ^ k := Nat.pow_le_pow_right (by decide) h
