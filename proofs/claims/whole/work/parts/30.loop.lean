/-! ===== a loop that counts up; sums; bounds of a rounded fraction ===== -/
theorem hr_loop {α σ : Type} {P : α → WS → Prop} (L : Nat → σ → St α) (B : (σ → St α) → σ → St α) (hL : ∀ n s, L (n + 1) s = B (L n) s) (N : Nat) (I : Nat → σ → WS → Prop)
    (hs : ∀ (j : Nat) (s : σ) (ws : WS) (rec : σ → St α), j < N → I j s ws → (∀ s' t, I (j + 1) s' t → Hr (rec s') t P) → Hr (B rec s) ws P)
    (hx : ∀ (s : σ) (ws : WS) (rec : σ → St α), I N s ws → Hr (B rec s) ws P) : ∀ (m fu j : Nat) (s : σ) (ws : WS), m < fu → j + m = N → I j s ws → Hr (L fu s) ws P := by
  intro m
  induction m with
  | zero =>
    intro fu j s ws hf hj hI
    obtain ⟨fu, rfl⟩ : ∃ f, fu = f + 1 := ⟨fu - 1, by omega⟩
    have e : j = N := by omega
    subst e
    rw [hL]
    exact hx s ws _ hI
  | succ m ih =>
    intro fu j s ws hf hj hI
    obtain ⟨fu, rfl⟩ : ∃ f, fu = f + 1 := ⟨fu - 1, by omega⟩
    rw [hL]
    exact hs j s ws _ (by omega) hI (fun s' t h => ih fu (j + 1) s' t (by omega) (by omega) h)
/-- the sum of f over 0 .. n - 1 -/
def Sm (f : Nat → Nat) : Nat → Nat
  | 0 => 0
  | n + 1 => Sm f n + f n
theorem Sm_congr {f g : Nat → Nat} : ∀ {n : Nat}, (∀ i, i < n → f i = g i) → Sm f n = Sm g n := by
  intro n
  induction n with
  | zero => intro _; rfl
  | succ n ih =>
    intro h
    show Sm f n + f n = Sm g n + g n
    rw [ih (fun i hi => h i (by omega)), h n (by omega)]
theorem Sm_u1 {f : Nat → Nat} {i v : Nat} : ∀ {n : Nat}, i < n → Sm (u1 f i v) n + f i = Sm f n + v := by
  intro n
  induction n with
  | zero => intro h; omega
  | succ n ih =>
    intro h
    show Sm (u1 f i v) n + u1 f i v n + f i = Sm f n + f n + v
    by_cases e : i = n
    · subst e
      rw [u1_s, Sm_congr (g := f) (fun j hj => u1_n (by omega))]
      omega
    · have := ih (by omega)
      rw [u1_n (fun h => e h.symm)]
      omega
theorem fdv_spec {a b : Int64} (hb : 0 < b.toInt) (ha : -2 ^ 62 ≤ a.toInt) : (fdv a b).toInt * b.toInt ≤ a.toInt ∧ a.toInt < ((fdv a b).toInt + 1) * b.toInt := by
  have hr := Jvm.Kit.i64_rem a b
  have hd := Jvm.Kit.i64_div (x := a) (y := b) (by omega)
  have he : b.toInt * a.toInt.tdiv b.toInt + a.toInt.tmod b.toInt = a.toInt := Int.mul_tdiv_add_tmod a.toInt b.toInt
  have h1 : a.toInt.tmod b.toInt < b.toInt := Int.tmod_lt_of_pos a.toInt hb
  have h2 : -b.toInt < a.toInt.tmod b.toInt := by
    have := Int.lt_tmod_of_pos a.toInt hb
    omega
  unfold fdv
  by_cases hc : a - a / b * b < 0
  · rw [if_pos hc]
    rw [Int64.lt_iff_toInt_lt, hr, i64_z] at hc
    have hq0 : a.toInt.tdiv b.toInt ≤ 0 := by
      by_cases hn : a.toInt.tdiv b.toInt ≤ 0
      · exact hn
      · exfalso
        have h3 : 0 < a.toInt := by
          by_cases h4 : 0 < a.toInt
          · exact h4
          · exfalso
            have h5 := Int.tdiv_nonneg (a := -a.toInt) (b := b.toInt) (by omega) (by omega)
            rw [Int.neg_tdiv] at h5
            omega
        have := Int.tmod_nonneg b.toInt (show 0 ≤ a.toInt by omega)
        omega
    have hqb : -2 ^ 62 ≤ a.toInt.tdiv b.toInt := by
      have h5 : a.toInt ≤ 0 := by
        by_cases h4 : 0 < a.toInt
        · have := Int.tmod_nonneg b.toInt (show 0 ≤ a.toInt by omega)
          omega
        · omega
      have h6 : (-a.toInt).tdiv b.toInt ≤ -a.toInt := by
        rw [Int.tdiv_eq_ediv_of_nonneg (by omega)]
        exact Int.ediv_le_self _ (by omega)
      rw [Int.neg_tdiv] at h6
      omega
    have e1 : (a / b - 1).toInt = a.toInt.tdiv b.toInt - 1 := by
      rw [Jvm.Kit.i64_sub (by rw [hd]; have : (1 : Int64).toInt = 1 := rfl; omega) (by rw [hd]; have : (1 : Int64).toInt = 1 := rfl; omega), hd]
      rfl
    rw [e1]
    rw [Int.mul_comm] at he
    constructor
    · rw [Int.sub_mul]
      omega
    · rw [show a.toInt.tdiv b.toInt - 1 + 1 = a.toInt.tdiv b.toInt by omega]
      omega
  · rw [if_neg hc]
    rw [Int64.lt_iff_toInt_lt, hr, i64_z] at hc
    rw [hd]
    rw [Int.mul_comm] at he
    constructor
    · omega
    · rw [Int.add_mul]
      omega
/-- a rounded fraction lies between the whole numbers between which the fraction lies -/
theorem rn_bd {a b : Int64} {lo hi : Int} (hb : 0 < b.toInt) (hb2 : b.toInt < 2 ^ 60) (h1 : lo * b.toInt ≤ a.toInt) (h2 : a.toInt ≤ hi * b.toInt) (hl : -2 ^ 31 ≤ lo) (hh : hi ≤ 2 ^ 31) (ha : -2 ^ 62 ≤ a.toInt) : lo ≤ (RN a b).toInt ∧ (RN a b).toInt ≤ hi := by
  obtain ⟨f1, f2⟩ := fdv_spec hb ha
  have l1 : lo ≤ (fdv a b).toInt := by
    have : lo * b.toInt < ((fdv a b).toInt + 1) * b.toInt := by omega
    have := Int.lt_of_mul_lt_mul_right this (by omega)
    omega
  have l2 : (fdv a b).toInt ≤ hi := by
    have : (fdv a b).toInt * b.toInt ≤ hi * b.toInt := by omega
    exact Int.le_of_mul_le_mul_right this hb
  have one : (1 : Int64).toInt = 1 := rfl
  have two : (2 : Int64).toInt = 2 := rfl
  have e1 : (fdv a b + 1).toInt = (fdv a b).toInt + 1 := by
    rw [Jvm.Kit.i64_add (by rw [one]; omega) (by rw [one]; omega), one]
  rw [Int.add_mul] at f2
  have e2 : (fdv a b * b).toInt = (fdv a b).toInt * b.toInt := by
    rw [Jvm.Kit.i64_mul (by omega) (by have := Int64.toInt_lt a; omega)]
  have e3 : (a - fdv a b * b).toInt = a.toInt - (fdv a b).toInt * b.toInt := by
    rw [Jvm.Kit.i64_sub (by rw [e2]; omega) (by rw [e2]; omega), e2]
  have e4 : (2 * (a - fdv a b * b)).toInt = 2 * (a.toInt - (fdv a b).toInt * b.toInt) := by
    rw [Jvm.Kit.i64_mul (by rw [e3, two]; omega) (by rw [e3, two]; omega), e3, two]
  have l3 : 0 < 2 * (a.toInt - (fdv a b).toInt * b.toInt) → (fdv a b).toInt + 1 ≤ hi := by
    intro h
    have : (fdv a b).toInt * b.toInt < hi * b.toInt := by omega
    have := Int.lt_of_mul_lt_mul_right this (by omega)
    omega
  unfold RN
  by_cases c1 : b < 2 * (a - fdv a b * b)
  · rw [if_pos c1]
    rw [Int64.lt_iff_toInt_lt, e4] at c1
    have := l3 (by omega)
    omega
  · rw [if_neg c1]
    by_cases c2 : 2 * (a - fdv a b * b) = b ∧ ¬ (fdv a b &&& 1) = 0
    · rw [if_pos c2]
      have c3 := congrArg Int64.toInt c2.1
      rw [e4] at c3
      have := l3 (by omega)
      omega
    · rw [if_neg c2]
      omega
theorem ix_zero {N : Nat} (h : 0 < N) : ¬ ((0 : Int32) < 0 ∨ N ≤ (0 : Int32).toNatClampNeg) := by
  intro z
  rcases z with z | z
  · exact absurd z (by decide)
  · rw [show (0 : Int32).toNatClampNeg = 0 by decide] at z
    omega
