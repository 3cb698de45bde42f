/-! ===== one answer only ===== -/
theorem FT.eq {v : Nat → Int32} {a b : Int32} (h1 : FT v a) (h2 : FT v b) : a = b := by
  rcases h1 with ⟨p, q, rfl⟩ | ⟨p, q, rfl⟩ | ⟨p, q, rfl⟩ | ⟨p, q, rfl⟩ <;> rcases h2 with ⟨p2, q2, rfl⟩ | ⟨p2, q2, rfl⟩ | ⟨p2, q2, rfl⟩ | ⟨p2, q2, rfl⟩ <;> first | rfl | exact absurd p p2 | exact absurd p2 p | exact absurd q q2 | exact absurd q2 q
theorem isLo.eq {v : Nat → Int32} {n : Nat} {a b : Int32} (h1 : isLo v n a) (h2 : isLo v n b) : a = b := by
  obtain ⟨⟨x, x1, x2⟩, x3⟩ := h1
  obtain ⟨⟨y, y1, y2⟩, y3⟩ := h2
  exact Int32.le_antisymm (by rw [← y2]; exact x3 y y1) (by rw [← x2]; exact y3 x x1)
theorem isHi.eq {v : Nat → Int32} {n : Nat} {a b : Int32} (h1 : isHi v n a) (h2 : isHi v n b) : a = b := by
  obtain ⟨⟨x, x1, x2⟩, x3⟩ := h1
  obtain ⟨⟨y, y1, y2⟩, y3⟩ := h2
  exact Int32.le_antisymm (by rw [← x2]; exact y3 x x1) (by rw [← y2]; exact x3 y y1)
theorem AB.eq {v : Nat → Int32} {se x2 a b : Int32} {w : Nat} (h1 : AB v se w x2 a) (h2 : AB v se w x2 b) : a = b := by
  rcases h1 with ⟨e, h⟩ | ⟨e, h⟩ | ⟨e, h⟩ | ⟨e, h⟩ | ⟨e, h⟩ | ⟨e, h⟩ | ⟨⟨n0, n1, n2, n3, n4, n5⟩, h⟩ <;> rcases h2 with ⟨e2, k⟩ | ⟨e2, k⟩ | ⟨e2, k⟩ | ⟨e2, k⟩ | ⟨e2, k⟩ | ⟨e2, k⟩ | ⟨⟨m0, m1, m2, m3, m4, m5⟩, k⟩ <;> first | (rw [h, k]; done) | exact h.eq k | (rw [e] at e2; exact absurd e2 (by decide)) | exact absurd e ‹_› | exact absurd e2 ‹_›
theorem TR.eq {v : Nat → Int32} {k a b : Int32} (h1 : TR v k a) (h2 : TR v k b) : a = b := by
  have hlt := ts_lt31 (v := v)
  have hex : ∀ x, x < 4096 → isT v x → k = nI (ts v x).2 → ¬ (k < 0 ∨ nI (ts v 4096).2 ≤ k) := by
    intro x hx hT e h
    have h3 := ts_lt hT hx
    rw [e] at h
    rcases h with h | h
    · exact nI_pos (by omega) h
    · exact nI_ge h3 hlt h
  rcases h1 with ⟨p, rfl⟩ | ⟨x, x1, x2, x3, rfl⟩ <;> rcases h2 with ⟨q, rfl⟩ | ⟨y, y1, y2, y3, rfl⟩
  · rfl
  · exact absurd p (hex y y1 y2 y3)
  · exact absurd q (hex x x1 x2 x3)
  · have e : (ts v x).2 = (ts v y).2 := nI_inj (by have := ts_lt x2 x1; omega) (by have := ts_lt y2 y1; omega) (by rw [← x3, ← y3])
    by_cases hxy : x < y
    · have := ts_lt x2 hxy
      omega
    · by_cases hyx : y < x
      · have := ts_lt y2 hyx
        omega
      · rw [show x = y by omega]
theorem NR.eq {v : Nat → Int32} {k a b : Int32} (h1 : NR v k a) (h2 : NR v k b) : a = b := by
  rcases h1 with ⟨p, p2, rfl⟩ | ⟨p, x, rfl, x1, x2⟩ <;> rcases h2 with ⟨q, q2, rfl⟩ | ⟨q, y, rfl, y1, y2⟩
  · rfl
  · exact absurd ⟨p, p2⟩ q
  · exact absurd ⟨q, q2⟩ p
  · by_cases hxy : x < y
    · have h3 := (x2 y y1).1
      have h4 := (y2 x x1).2 hxy
      omega
    · by_cases hyx : y < x
      · have h3 := (y2 x x1).1
        have h4 := (x2 y y1).2 hyx
        omega
      · rw [show x = y by omega]
/-! ===== the sums of a LINE ===== -/
/-- of the first k READINGS: the sums of w, w x, w x x, w r, w x r -/
def LSm (cn rf wt : Nat → Int32) : Nat → Int64 × Int64 × Int64 × Int64 × Int64
  | 0 => (0, 0, 0, 0, 0)
  | k + 1 => ((LSm cn rf wt k).1 + (wt k).toInt64, (LSm cn rf wt k).2.1 + (wt k).toInt64 * (cn k).toInt64, (LSm cn rf wt k).2.2.1 + (wt k).toInt64 * (cn k).toInt64 * (cn k).toInt64, (LSm cn rf wt k).2.2.2.1 + (wt k).toInt64 * (rf k).toInt64, (LSm cn rf wt k).2.2.2.2 + (wt k).toInt64 * (cn k).toInt64 * (rf k).toInt64)
def lsA (cn rf wt : Nat → Int32) (n : Nat) : Int64 := (LSm cn rf wt n).2.2.1 * (LSm cn rf wt n).2.2.2.1 - (LSm cn rf wt n).2.1 * (LSm cn rf wt n).2.2.2.2
def lsB (cn rf wt : Nat → Int32) (n : Nat) : Int64 := (LSm cn rf wt n).1 * (LSm cn rf wt n).2.2.2.2 - (LSm cn rf wt n).2.1 * (LSm cn rf wt n).2.2.2.1
def lsD (cn rf wt : Nat → Int32) (n : Nat) : Int64 := (LSm cn rf wt n).1 * (LSm cn rf wt n).2.2.1 - (LSm cn rf wt n).2.1 * (LSm cn rf wt n).2.1
/-- the VALUE of the LINE -/
def lsV (cn rf wt : Nat → Int32) (n x : Nat) : Int32 := nvl (RN (lsA cn rf wt n + lsB cn rf wt n * (nI x).toInt64) (lsD cn rf wt n))
def iS (cn wt : Nat → Int32) : Nat → Int × Int × Int
  | 0 => (0, 0, 0)
  | k + 1 => ((iS cn wt k).1 + (wt k).toInt, (iS cn wt k).2.1 + (wt k).toInt * (cn k).toInt, (iS cn wt k).2.2 + (wt k).toInt * (cn k).toInt * (cn k).toInt)
def iD (cn wt : Nat → Int32) (k : Nat) : Int := (iS cn wt k).1 * (iS cn wt k).2.2 - (iS cn wt k).2.1 * (iS cn wt k).2.1
def iG (cn wt : Nat → Int32) (k : Nat) (x : Int) : Int := (iS cn wt k).1 * (x * x) - 2 * x * (iS cn wt k).2.1 + (iS cn wt k).2.2
theorem iG_s {cn wt : Nat → Int32} {k : Nat} {x : Int} : iG cn wt (k + 1) x = iG cn wt k x + (wt k).toInt * ((x - (cn k).toInt) * (x - (cn k).toInt)) := by
  unfold iG
  show ((iS cn wt k).1 + (wt k).toInt) * (x * x) - 2 * x * ((iS cn wt k).2.1 + (wt k).toInt * (cn k).toInt) + ((iS cn wt k).2.2 + (wt k).toInt * (cn k).toInt * (cn k).toInt) = _
  grind
theorem iD_s {cn wt : Nat → Int32} {k : Nat} : iD cn wt (k + 1) = iD cn wt k + (wt k).toInt * iG cn wt k (cn k).toInt := by
  unfold iD iG
  show ((iS cn wt k).1 + (wt k).toInt) * ((iS cn wt k).2.2 + (wt k).toInt * (cn k).toInt * (cn k).toInt) - ((iS cn wt k).2.1 + (wt k).toInt * (cn k).toInt) * ((iS cn wt k).2.1 + (wt k).toInt * (cn k).toInt) = _
  grind
theorem sq_pos {a : Int} (h : a ≠ 0) : 0 < a * a := by
  rcases Int.lt_trichotomy a 0 with h1 | h1 | h1
  · exact Int.mul_pos_of_neg_of_neg h1 h1
  · exact absurd h1 h
  · exact Int.mul_pos h1 h1
theorem sq_nn (a : Int) : 0 ≤ a * a := by
  by_cases h : a = 0
  · rw [h]; exact Int.le_refl _
  · exact Int.le_of_lt (sq_pos h)
theorem iG_nn {cn wt : Nat → Int32} {x : Int} : ∀ {k : Nat}, (∀ i, i < k → 1 ≤ (wt i).toInt) → 0 ≤ iG cn wt k x := by
  intro k
  induction k with
  | zero => intro _; unfold iG iS; simp
  | succ k ih =>
    intro h
    rw [iG_s]
    have h1 := ih (fun i hi => h i (by omega))
    have h2 := Int.mul_nonneg (show 0 ≤ (wt k).toInt by have := h k (by omega); omega) (sq_nn (x - (cn k).toInt))
    omega
theorem iG_pos {cn wt : Nat → Int32} {x : Int} (hx : x ≠ (cn 0).toInt) : ∀ {k : Nat}, 1 ≤ k → (∀ i, i < k → 1 ≤ (wt i).toInt) → 0 < iG cn wt k x := by
  intro k
  induction k with
  | zero => intro h; omega
  | succ k ih =>
    intro _ h
    rw [iG_s]
    by_cases h0 : k = 0
    · subst h0
      have h1 : iG cn wt 0 x = 0 := by unfold iG iS; simp
      have h2 := Int.mul_pos (show 0 < (wt 0).toInt by have := h 0 (by omega); omega) (sq_pos (show x - (cn 0).toInt ≠ 0 by omega))
      omega
    · have h1 := ih (by omega) (fun i hi => h i (by omega))
      have h2 := Int.mul_nonneg (show 0 ≤ (wt k).toInt by have := h k (by omega); omega) (sq_nn (x - (cn k).toInt))
      omega
theorem iD_nn {cn wt : Nat → Int32} : ∀ {k : Nat}, (∀ i, i < k → 1 ≤ (wt i).toInt) → 0 ≤ iD cn wt k := by
  intro k
  induction k with
  | zero => intro _; unfold iD iS; simp
  | succ k ih =>
    intro h
    rw [iD_s]
    have h1 := ih (fun i hi => h i (by omega))
    have h2 := Int.mul_nonneg (show 0 ≤ (wt k).toInt by have := h k (by omega); omega) (iG_nn (cn := cn) (wt := wt) (x := (cn k).toInt) (k := k) (fun i hi => h i (by omega)))
    omega
/-- two different COUNTS -/
def two (n : Nat) (cn : Nat → Int32) : Prop := ∃ i, 1 ≤ i ∧ i < n ∧ ¬ cn i = cn 0
theorem iD_pos {cn wt : Nat → Int32} : ∀ {k : Nat}, (∀ i, i < k → 1 ≤ (wt i).toInt) → two k cn → 0 < iD cn wt k := by
  intro k
  induction k with
  | zero => intro _ ⟨i, a, b, c⟩; omega
  | succ k ih =>
    intro h ⟨i, a, b, c⟩
    rw [iD_s]
    by_cases e : i = k
    · subst e
      have h1 := iD_nn (cn := cn) (k := i) (fun j hj => h j (by omega))
      have h2 := Int.mul_pos (show 0 < (wt i).toInt by have := h i (by omega); omega) (iG_pos (cn := cn) (wt := wt) (x := (cn i).toInt) (fun e => c (Int32.toInt_inj.mp e)) a (fun j hj => h j (by omega)))
      omega
    · have h1 := ih (fun j hj => h j (by omega)) ⟨i, a, by omega, c⟩
      have h2 := Int.mul_nonneg (show 0 ≤ (wt k).toInt by have := h k (by omega); omega) (iG_nn (cn := cn) (wt := wt) (x := (cn k).toInt) (k := k) (fun i hi => h i (by omega)))
      omega
theorem iS_eq {cn wt : Nat → Int32} {n : Nat} (hn : ¬ two n cn) : ∀ {k : Nat}, k ≤ n → (iS cn wt k).2.1 = (cn 0).toInt * (iS cn wt k).1 ∧ (iS cn wt k).2.2 = (cn 0).toInt * (cn 0).toInt * (iS cn wt k).1 := by
  intro k
  induction k with
  | zero => intro _; unfold iS; simp
  | succ k ih =>
    intro h
    obtain ⟨h1, h2⟩ := ih (by omega)
    have e : cn k = cn 0 := by
      by_cases h0 : k = 0
      · rw [h0]
      · by_cases e : cn k = cn 0
        · exact e
        · exact absurd ⟨k, by omega, by omega, e⟩ hn
    show (iS cn wt k).2.1 + (wt k).toInt * (cn k).toInt = (cn 0).toInt * ((iS cn wt k).1 + (wt k).toInt) ∧ (iS cn wt k).2.2 + (wt k).toInt * (cn k).toInt * (cn k).toInt = (cn 0).toInt * (cn 0).toInt * ((iS cn wt k).1 + (wt k).toInt)
    rw [e, h1, h2]
    constructor <;> grind
theorem iD_zero {cn wt : Nat → Int32} {n : Nat} (hn : ¬ two n cn) : iD cn wt n = 0 := by
  obtain ⟨h1, h2⟩ := iS_eq (wt := wt) hn (Nat.le_refl n)
  unfold iD
  rw [h1, h2]
  grind
