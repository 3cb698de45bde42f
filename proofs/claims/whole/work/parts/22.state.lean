/-! ===== cells, and the parts of the state ===== -/
abbrev cI (n : Nat) (f : Nat → Int32) : PE := .inl (0, (n, .inl f))
abbrev cT (t n : Nat) (f : Nat → Int32) : PE := .inl (t, (n, .inl f))
abbrev cL (n : Nat) (f : Nat → Int64) : PE := .inl (4, (n, .inr (.inl f)))
abbrev cF (n : Nat) (f : Nat → UInt32) : PE := .inl (5, (n, .inr (.inr (.inl f))))
abbrev cD (n : Nat) (f : Nat → UInt64) : PE := .inl (6, (n, .inr (.inr (.inr (.inl f)))))
abbrev cQ (t n : Nat) (f : Nat → Option Nat) : PE := .inl (t, (n, .inr (.inr (.inr (.inr f)))))
abbrev ob (ci : Nat) (fs : List Value) : PE := .inr (ci, fs)
theorem up_ne {h : Nat → Option PE} {a q : Nat} {e : PE} {r : Option PE} (hne : q ≠ a) (hr : h q = r) : m_up h a e q = r := (m_up_ne h e hne).trans hr
theorem up_eq {h : Nat → Option PE} {a q : Nat} {e : PE} (he : q = a) : m_up h a e q = some e := by rw [he]; exact m_up_self h a e
/-- the class's SENSORS: n READINGS each, their numbers -/
def SC (h : Nat → Option PE) (z : Nat) (n : Nat → Nat) (cnt rf wt : Nat → Nat → Int32) : Prop := ∀ s, s < 8 → ∃ f1 f2 f3 : Nat → Int32, h (z + 18 + 4 * s) = some (ob 7 [.ref (z + 18 + 4 * s + 1), .ref (z + 18 + 4 * s + 2), .ref (z + 18 + 4 * s + 3), .int (nI (n s))]) ∧ h (z + 18 + 4 * s + 1) = some (cI 24 f1) ∧ h (z + 18 + 4 * s + 2) = some (cI 24 f2) ∧ h (z + 18 + 4 * s + 3) = some (cI 24 f3) ∧ ∀ k, k < n s → f1 k = cnt s k ∧ f2 k = rf s k ∧ f3 k = wt s k
def SI (n : Nat → Nat) (cnt rf wt : Nat → Nat → Int32) : Prop := ∀ s, s < 8 → n s ≤ 24 ∧ ∀ k, k < n s → (0 ≤ (cnt s k).toInt ∧ (cnt s k).toInt ≤ 4095) ∧ (-10000 ≤ (rf s k).toInt ∧ (rf s k).toInt ≤ 10000) ∧ (1 ≤ (wt s k).toInt ∧ (wt s k).toInt ≤ 20)
theorem c_add {ws : WS} {o n : Nat} {f1 f2 f3 : Nat → Int32} {x r w : Int32} (hn : n < 24) (h0 : ws.1 o = some (ob 7 [.ref (o + 1), .ref (o + 2), .ref (o + 3), .int (nI n)])) (h1 : ws.1 (o + 1) = some (cI 24 f1)) (h2 : ws.1 (o + 2) = some (cI 24 f2)) (h3 : ws.1 (o + 3) = some (cI 24 f3)) : Hr (F_X8_add o x r w) ws (fun _ t => t = (m_up (m_up (m_up (m_up ws.1 (o + 1) (cI 24 (upd f1 n x))) (o + 2) (cI 24 (upd f2 n r))) (o + 3) (cI 24 (upd f3 n w))) o (ob 7 [.ref (o + 1), .ref (o + 2), .ref (o + 3), .int (nI (n + 1))]), ws.2)) := by
  have hc : (nI n).toNatClampNeg = n := nI_clamp (by omega)
  have hi : ¬ (nI n < 0 ∨ 24 ≤ (nI n).toNatClampNeg) := nI_in hn (by decide)
  unfold F_X8_add
  refine hb_gRs h0 (by decide) rfl ?_
  refine hb_gI h0 (by decide) rfl ?_
  refine hb_sI h1 hi ?_
  refine hb_gRs (up_ne (by omega) h0) (by decide) rfl ?_
  refine hb_gI (up_ne (by omega) h0) (by decide) rfl ?_
  refine hb_sI (up_ne (by omega) h2) hi ?_
  refine hb_gRs (up_ne (by omega) (up_ne (by omega) h0)) (by decide) rfl ?_
  refine hb_gI (up_ne (by omega) (up_ne (by omega) h0)) (by decide) rfl ?_
  refine hb_sI (up_ne (by omega) (up_ne (by omega) h3)) hi ?_
  refine hb_gI (up_ne (by omega) (up_ne (by omega) (up_ne (by omega) h0))) (by decide) rfl ?_
  refine hb_pV (up_ne (by omega) (up_ne (by omega) (up_ne (by omega) h0))) (by decide) (by simp) ?_
  refine hr_rt ?_
  rw [hc, nI_1]
  rfl
/-- the count is a COUNT -/
def isCt (x : Int32) : Prop := ¬ x < 0 ∧ ¬ 4095 < x
theorem q_isCount {β : Type} {x : Int32} {K : Int32 → St β} {ws : WS} {P : β → WS → Prop} (h1 : isCt x → Hr (K 1) ws P) (h0 : ¬ isCt x → Hr (K 0) ws P) : Hr (bd (F_X10_isCount x) K) ws P := by
  refine hr_bd ?_
  unfold F_X10_isCount
  refine hr_br (fun a => hr_rt (h0 (fun z => z.1 a))) (fun a => ?_)
  refine hr_br (fun b => hr_rt (h0 (fun z => z.2 b))) (fun b => hr_rt (h1 ⟨a, b⟩))
theorem q_isWithin {β : Type} {x y : Int32} {K : Int32 → St β} {ws : WS} {P : β → WS → Prop} (h1 : (¬ x < -y ∧ ¬ y < x) → Hr (K 1) ws P) (h0 : ¬ (¬ x < -y ∧ ¬ y < x) → Hr (K 0) ws P) : Hr (bd (F_X10_isWithin x y) K) ws P := by
  refine hr_bd ?_
  unfold F_X10_isWithin
  refine hr_br (fun a => hr_rt (h0 (fun z => z.1 a))) (fun a => ?_)
  refine hr_br (fun b => hr_rt (h0 (fun z => z.2 b))) (fun b => hr_rt (h1 ⟨a, b⟩))
