/-! ===== cells, and the parts of the state ===== -/
abbrev cI (n : Nat) (f : Nat → Int32) : PE := .inl (0, (n, .inl f))
abbrev cT (t n : Nat) (f : Nat → Int32) : PE := .inl (t, (n, .inl f))
abbrev cL (n : Nat) (f : Nat → Int64) : PE := .inl (4, (n, .inr (.inl f)))
abbrev cF (n : Nat) (f : Nat → UInt32) : PE := .inl (5, (n, .inr (.inr (.inl f))))
abbrev cD (n : Nat) (f : Nat → UInt64) : PE := .inl (6, (n, .inr (.inr (.inr (.inl f)))))
abbrev cQ (t n : Nat) (f : Nat → Option Nat) : PE := .inl (t, (n, .inr (.inr (.inr (.inr f)))))
abbrev ob (ci : Nat) (fs : List Value) : PE := .inr (ci, fs)
theorem up_ne {h : Nat → Option PE} {a q : Nat} {e : PE} {r : Option PE} (hne : q ≠ a) (hr : h q = r) : m_up h a e q = r := (m_up_ne h e hne).trans hr
theorem up_eq {h : Nat → Option PE} {a q : Nat} {e : PE} (he : q = a) : m_up h a e q = some e := by rw [he]; exact m_up_self h a e
/-- the count is a COUNT -/
def isCt (x : Int32) : Prop := ¬ x < 0 ∧ ¬ 4095 < x
theorem q_isCount {β : Type} {x : Int32} {K : Int32 → St β} {ws : WS} {P : β → WS → Prop} (h1 : isCt x → Hr (K 1) ws P) (h0 : ¬ isCt x → Hr (K 0) ws P) : Hr (bd (F_X10_isCount x) K) ws P := by
  refine hr_bd ?_
  unfold F_X10_isCount
  refine hr_br (fun a => hr_rt (h0 (fun z => z.1 a))) (fun a => ?_)
  refine hr_br (fun b => hr_rt (h0 (fun z => z.2 b))) (fun b => hr_rt (h1 ⟨a, b⟩))
theorem q_isWithin {β : Type} {x y : Int32} {K : Int32 → St β} {ws : WS} {P : β → WS → Prop} (h1 : (¬ x < -y ∧ ¬ y < x) → Hr (K 1) ws P) (h0 : ¬ (¬ x < -y ∧ ¬ y < x) → Hr (K 0) ws P) : Hr (bd (F_X10_isWithin x y) K) ws P := by
  refine hr_bd ?_
  unfold F_X10_isWithin
  refine hr_br (fun a => hr_rt (h0 (fun z => z.1 a))) (fun a => ?_)
  refine hr_br (fun b => hr_rt (h0 (fun z => z.2 b))) (fun b => hr_rt (h1 ⟨a, b⟩))
theorem q_isValue {β : Type} {x : Int32} {K : Int32 → St β} {ws : WS} {P : β → WS → Prop} (h1 : (¬ x < -1000000 ∧ ¬ 1000000 < x) → Hr (K 1) ws P) (h0 : ¬ (¬ x < -1000000 ∧ ¬ 1000000 < x) → Hr (K 0) ws P) : Hr (bd (F_X10_isValue x) K) ws P := by
  refine hr_bd ?_
  unfold F_X10_isValue
  refine q_isWithin (fun a => ?_) (fun a => ?_)
  · exact hb_ck (Or.inr rfl) (hr_rt (h1 a))
  · exact hb_ck (Or.inl rfl) (hr_rt (h0 a))
theorem i32_lt_succ {x : Int32} : (4096 : Int32) ≤ x ↔ 4095 < x := by
  rw [Int32.le_iff_toInt_le, Int32.lt_iff_toInt_lt]
  have h1 : (4096 : Int32).toInt = 4096 := rfl
  have h2 : (4095 : Int32).toInt = 4095 := rfl
  rw [h1, h2]
  omega
theorem qm_isCount {β : Type} {x : Int32} {K : Int32 → St β} {ws : WS} {P : β → WS → Prop} (h1 : isCt x → Hr (K 1) ws P) (h0 : ¬ isCt x → Hr (K 0) ws P) : Hr (bd (F_X11_isCount x) K) ws P := by
  refine hr_bd ?_
  unfold F_X11_isCount
  refine hr_br (fun a => hr_rt (h0 (fun z => z.1 a))) (fun a => ?_)
  refine hr_br (fun b => hr_rt (h0 (fun z => z.2 (i32_lt_succ.mp b)))) (fun b => hr_rt (h1 ⟨a, fun z => b (i32_lt_succ.mpr z)⟩))
theorem qm_isValue {β : Type} {x : Int32} {K : Int32 → St β} {ws : WS} {P : β → WS → Prop} (h1 : (¬ x < -1000000 ∧ ¬ 1000000 < x) → Hr (K 1) ws P) (h0 : ¬ (¬ x < -1000000 ∧ ¬ 1000000 < x) → Hr (K 0) ws P) : Hr (bd (F_X11_isValue x) K) ws P := by
  refine hr_bd ?_
  unfold F_X11_isValue
  refine hr_br (fun a => hr_rt (h0 (fun z => z.1 a))) (fun a => ?_)
  refine hr_br (fun b => hr_rt (h0 (fun z => z.2 b))) (fun b => hr_rt (h1 ⟨a, b⟩))
/-- an index that is one of n, or none -/
theorem ix_cases (x : Int32) (n : Nat) (hn : n < 2 ^ 31) : (x < 0 ∨ nI n ≤ x) ∨ ∃ j, j < n ∧ x = nI j ∧ ¬ x < 0 ∧ ¬ nI n ≤ x := by
  rcases pk_ix x hn with h | h | ⟨j, hj, rfl⟩
  · exact Or.inl (Or.inl h)
  · exact Or.inl (Or.inr h)
  · exact Or.inr ⟨j, hj, rfl, nI_pos (by omega), nI_ge hj hn⟩
theorem qm_isSensor {β : Type} {x : Int32} {K : Int32 → St β} {ws : WS} {P : β → WS → Prop} (h1 : ∀ j, j < 8 → x = nI j → Hr (K 1) ws P) (h0 : (x < 0 ∨ nI 8 ≤ x) → Hr (K 0) ws P) : Hr (bd (F_X11_isSensor x) K) ws P := by
  refine hr_bd ?_
  unfold F_X11_isSensor
  rcases ix_cases x 8 (by decide) with h | ⟨j, hj, rfl, g1, g2⟩
  · refine hr_br (fun _ => hr_rt (h0 h)) (fun a => ?_)
    refine hr_br (fun _ => hr_rt (h0 h)) (fun b => ?_)
    rcases h with h | h
    · exact absurd h a
    · exact absurd h b
  · exact hr_f g1 (hr_f g2 (hr_rt (h1 j hj rfl)))
