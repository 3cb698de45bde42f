/-! ===== FILTERS: sums, middles ===== -/
def S64 (f : Nat → Int32) : Nat → Int64
  | 0 => 0
  | n + 1 => S64 f n + (f n).toInt64
theorem S64_congr {f g : Nat → Int32} : ∀ {n : Nat}, (∀ i, i < n → f i = g i) → S64 f n = S64 g n := by
  intro n
  induction n with
  | zero => intro _; rfl
  | succ n ih =>
    intro h
    show S64 f n + (f n).toInt64 = S64 g n + (g n).toInt64
    rw [ih (fun i hi => h i (by omega)), h n (by omega)]
theorem S64_first {f : Nat → Int32} : ∀ n : Nat, S64 f (n + 1) = (f 0).toInt64 + S64 (fun k => f (k + 1)) n := by
  intro n
  induction n with
  | zero => show (0 : Int64) + _ = _ + (0 : Int64); rw [Int64.zero_add, Int64.add_zero]
  | succ n ih =>
    show S64 f (n + 1) + (f (n + 1)).toInt64 = (f 0).toInt64 + (S64 (fun k => f (k + 1)) n + (f (n + 1)).toInt64)
    rw [ih, Int64.add_assoc]
theorem S64_rev : ∀ (n : Nat) (f : Nat → Int32), S64 (fun k => f (n - 1 - k)) n = S64 f n := by
  intro n
  induction n with
  | zero => intro f; rfl
  | succ n ih =>
    intro f
    rw [S64_first]
    show (f (n + 1 - 1 - 0)).toInt64 + S64 (fun k => f (n + 1 - 1 - (k + 1))) n = S64 f n + (f n).toInt64
    rw [show n + 1 - 1 - 0 = n by omega, Int64.add_comm, S64_congr (g := fun k => f (n - 1 - k)) (fun k hk => by rw [show n + 1 - 1 - (k + 1) = n - 1 - k by omega]), ih f]
theorem S64_b {f : Nat → Int32} {m : Nat} (hm : m ≤ 9) (h : ∀ k, k < m → 0 ≤ (f k).toInt ∧ (f k).toInt ≤ 4095) : ∀ n, n ≤ m → 0 ≤ (S64 f n).toInt ∧ (S64 f n).toInt ≤ 4095 * n := by
  intro n
  induction n with
  | zero => intro _; exact ⟨Int.le_refl _, Int.le_refl _⟩
  | succ n ih =>
    intro hn
    have h1 := ih (by omega)
    have h2 := h n (by omega)
    show 0 ≤ (S64 f n + (f n).toInt64).toInt ∧ (S64 f n + (f n).toInt64).toInt ≤ 4095 * ((n + 1 : Nat) : Int)
    rw [Jvm.Kit.i64_add, Jvm.Kit.i64_of_i32]
    · omega
    · rw [Jvm.Kit.i64_of_i32]; omega
    · rw [Jvm.Kit.i64_of_i32]; omega
theorem Sm_first {f : Nat → Nat} : ∀ n : Nat, Sm f (n + 1) = f 0 + Sm (fun k => f (k + 1)) n := by
  intro n
  induction n with
  | zero => show 0 + f 0 = f 0 + 0; omega
  | succ n ih =>
    show Sm f (n + 1) + f (n + 1) = f 0 + (Sm (fun k => f (k + 1)) n + f (n + 1))
    rw [ih]
    omega
theorem Sm_rev : ∀ (n : Nat) (f : Nat → Nat), Sm (fun k => f (n - 1 - k)) n = Sm f n := by
  intro n
  induction n with
  | zero => intro f; rfl
  | succ n ih =>
    intro f
    rw [Sm_first]
    show f (n + 1 - 1 - 0) + Sm (fun k => f (n + 1 - 1 - (k + 1))) n = Sm f n + f n
    rw [show n + 1 - 1 - 0 = n by omega, Sm_congr (g := fun k => f (n - 1 - k)) (fun k hk => by rw [show n + 1 - 1 - (k + 1) = n - 1 - k by omega]), ih f]
    omega
/-- 1 if a is below v; 1 if it is v -/
def iL (v a : Int32) : Nat := if a < v then 1 else 0
def iE (v a : Int32) : Nat := if a = v then 1 else 0
def nL (f : Nat → Int32) (n : Nat) (v : Int32) : Nat := Sm (fun k => iL v (f k)) n
def nE (f : Nat → Int32) (n : Nat) (v : Int32) : Nat := Sm (fun k => iE v (f k)) n
/-- r is the middle one of n -/
def MD (n : Nat) (f : Nat → Int32) (r : Int32) : Prop := (∃ k, k < n ∧ f k = r) ∧ nL f n r ≤ (n - 1) / 2 ∧ (n - 1) / 2 < nL f n r + nE f n r
theorem Sm_le {f g : Nat → Nat} : ∀ {n : Nat}, (∀ i, i < n → f i ≤ g i) → Sm f n ≤ Sm g n := by
  intro n
  induction n with
  | zero => intro _; exact Nat.le_refl _
  | succ n ih =>
    intro h
    have h1 := ih (fun i hi => h i (by omega))
    have h2 := h n (by omega)
    show Sm f n + f n ≤ Sm g n + g n
    omega
theorem Sm_add {f g : Nat → Nat} : ∀ n : Nat, Sm f n + Sm g n = Sm (fun k => f k + g k) n := by
  intro n
  induction n with
  | zero => rfl
  | succ n ih =>
    show Sm f n + f n + (Sm g n + g n) = Sm (fun k => f k + g k) n + (f n + g n)
    omega
theorem md_lt {f : Nat → Int32} {n : Nat} {a b : Int32} (h : a < b) : nL f n a + nE f n a ≤ nL f n b := by
  unfold nL nE
  rw [Sm_add]
  refine Sm_le (fun k _ => ?_)
  unfold iL iE
  rw [Int32.lt_iff_toInt_lt] at h
  by_cases c1 : f k < a
  · rw [if_pos c1]
    rw [Int32.lt_iff_toInt_lt] at c1
    rw [if_neg (fun e => by rw [e] at c1; omega), if_pos (by rw [Int32.lt_iff_toInt_lt]; omega)]
    exact Nat.le_refl _
  · rw [if_neg c1]
    by_cases c2 : f k = a
    · rw [if_pos c2, if_pos (by rw [c2, Int32.lt_iff_toInt_lt]; exact h)]
      exact Nat.le_refl _
    · rw [if_neg c2]
      exact Nat.zero_le _
theorem md_eq2 {f : Nat → Int32} {n m : Nat} {a b : Int32} (a1 : nL f n a ≤ m) (a2 : m < nL f n a + nE f n a) (b1 : nL f n b ≤ m) (b2 : m < nL f n b + nE f n b) : a = b := by
  by_cases h1 : a < b
  · have := md_lt (f := f) (n := n) h1
    omega
  · by_cases h2 : b < a
    · have := md_lt (f := f) (n := n) h2
      omega
    · exact Int32.le_antisymm (Int32.not_lt.mp h2) (Int32.not_lt.mp h1)
theorem MD.eq {f : Nat → Int32} {n : Nat} {a b : Int32} (ha : MD n f a) (hb : MD n f b) : a = b := md_eq2 ha.2.1 ha.2.2 hb.2.1 hb.2.2
/-- x put in at place k -/
def ins (g : Nat → Int32) (k : Nat) (x : Int32) : Nat → Int32 := fun j => if j < k then g j else if j = k then x else g (j - 1)
theorem Sm_ins {F : Int32 → Nat} {g : Nat → Int32} {k : Nat} {x : Int32} : ∀ i, k ≤ i → Sm (fun j => F (ins g k x j)) (i + 1) = Sm (fun j => F (g j)) i + F x := by
  intro i
  induction i with
  | zero =>
    intro h
    show 0 + F (ins g k x 0) = 0 + F x
    unfold ins
    rw [if_neg (by omega), if_pos (by omega)]
  | succ i ih =>
    intro h
    show Sm (fun j => F (ins g k x j)) (i + 1) + F (ins g k x (i + 1)) = Sm (fun j => F (g j)) i + F (g i) + F x
    by_cases e : k = i + 1
    · have h1 : Sm (fun j => F (ins g k x j)) (i + 1) = Sm (fun j => F (g j)) (i + 1) := Sm_congr (fun j hj => by
        unfold ins
        rw [if_pos (by omega)])
      rw [h1]
      show Sm (fun j => F (g j)) i + F (g i) + F (ins g k x (i + 1)) = _
      unfold ins
      rw [if_neg (by omega), if_pos (by omega)]
    · rw [ih (by omega)]
      unfold ins
      rw [if_neg (by omega), if_neg (by omega), show i + 1 - 1 = i by omega]
      omega
theorem Sm_zero_from {f : Nat → Nat} {m : Nat} : ∀ n, (∀ k, f k ≤ 1) → (∀ k, m ≤ k → k < n → f k = 0) → Sm f n ≤ m := by
  intro n
  induction n with
  | zero => intro _ _; exact Nat.zero_le _
  | succ n ih =>
    intro h1 h2
    by_cases e : n < m
    · have hb : ∀ k, Sm f k ≤ k := by
        intro k
        induction k with
        | zero => exact Nat.le_refl _
        | succ k ihk =>
          have := h1 k
          show Sm f k + f k ≤ k + 1
          omega
      have := hb (n + 1)
      omega
    · have := ih h1 (fun k a b => h2 k a (by omega))
      have := h2 n (by omega) (by omega)
      show Sm f n + f n ≤ m
      omega
theorem Sm_ones {f : Nat → Nat} {m : Nat} : ∀ n, m ≤ n → (∀ k, k < m → 1 ≤ f k) → m ≤ Sm f n := by
  intro n
  induction n with
  | zero => intro h _; exact h
  | succ n ih =>
    intro h h1
    by_cases e : m = n + 1
    · have hb : ∀ k, k ≤ n + 1 → k ≤ Sm f k := by
        intro k
        induction k with
        | zero => intro _; exact Nat.le_refl _
        | succ k ihk =>
          intro hk
          have h3 := ihk (by omega)
          have h4 := h1 k (by omega)
          show k + 1 ≤ Sm f k + f k
          omega
      rw [e]
      exact hb (n + 1) (Nat.le_refl _)
    · have := ih (by omega) h1
      show m ≤ Sm f n + f n
      omega
/-- the middle place of a row that rises -/
theorem md_sorted {g : Nat → Int32} {n m : Nat} (hm : m < n) (hs : ∀ a b, a < b → b < n → g a ≤ g b) : nL g n (g m) ≤ m ∧ m < nL g n (g m) + nE g n (g m) := by
  have hs2 : ∀ a b, a ≤ b → b < n → (g a).toInt ≤ (g b).toInt := by
    intro a b h1 h2
    by_cases e : a = b
    · rw [e]; exact Int.le_refl _
    · exact Int32.le_iff_toInt_le.mp (hs a b (by omega) h2)
  constructor
  · unfold nL
    refine Sm_zero_from n (fun k => ?_) (fun k a b => ?_)
    · unfold iL
      split <;> omega
    · unfold iL
      rw [if_neg]
      rw [Int32.lt_iff_toInt_lt]
      have := hs2 m k a b
      omega
  · unfold nL nE
    rw [Sm_add]
    have := Sm_ones (f := fun k => iL (g m) (g k) + iE (g m) (g k)) (m := m + 1) n (by omega) (fun k hk => ?_)
    · omega
    · have h1 := hs2 k m (by omega) hm
      unfold iL iE
      by_cases c : g k < g m
      · rw [if_pos c]; omega
      · rw [if_neg c]
        rw [Int32.lt_iff_toInt_lt] at c
        rw [if_pos (Int32.toInt_inj.mp (by omega))]
        omega
/-- what a FILTER gives of the n latest -/
def FVL (pf : Int32) (n : Nat) (f : Nat → Int32) (r : Int32) : Prop := (pf = 0 ∧ r = f 0) ∨ (pf = 2 ∧ r = (RN (S64 f n) (nI n).toInt64).toInt32) ∨ (pf = 1 ∧ MD n f r)
theorem FVL.eq {pf a b : Int32} {n : Nat} {f : Nat → Int32} (h1 : FVL pf n f a) (h2 : FVL pf n f b) : a = b := by
  rcases h1 with ⟨e, h⟩ | ⟨e, h⟩ | ⟨e, h⟩ <;> rcases h2 with ⟨e2, k⟩ | ⟨e2, k⟩ | ⟨e2, k⟩ <;> first | (rw [h, k]; done) | exact h.eq k | (rw [e] at e2; exact absurd e2 (by decide))
theorem FVL.ct {pf r : Int32} {n : Nat} {f : Nat → Int32} (h : FVL pf n f r) (h0 : 0 < n) (hn : n ≤ 9) (hb : ∀ k, k < n → 0 ≤ (f k).toInt ∧ (f k).toInt ≤ 4095) : ∃ j, j < 4096 ∧ r = nI j := by
  have hr : 0 ≤ r.toInt ∧ r.toInt ≤ 4095 := by
    rcases h with ⟨-, h⟩ | ⟨-, h⟩ | ⟨-, ⟨k, k1, k2⟩, -⟩
    · rw [h]
      exact hb 0 h0
    · have hs := S64_b (f := f) (m := n) hn hb n (Nat.le_refl _)
      have hni : (nI n).toInt64.toInt = n := by rw [Jvm.Kit.i64_of_i32, nI_toInt (by omega)]
      have := rn_bd (a := S64 f n) (b := (nI n).toInt64) (lo := 0) (hi := 4095) (by omega) (by omega) (by omega) (by rw [hni]; omega) (by decide) (by decide) (by omega)
      rw [h, Jvm.Kit.i32_of_i64 (by omega) (by omega)]
      exact this
    · rw [← k2]
      exact hb k k1
  exact nI_ofInt (n := 4096) (by rw [Int32.lt_iff_toInt_lt]; show ¬ r.toInt < 0; omega) (by rw [Int32.lt_iff_toInt_lt, nI_toInt (by decide)]; omega) (by decide)
