/-! ===== the constructor of the reference ===== -/
/-- the arrays of a new reference -/
def MZ (t : WS) (a : Nat) : Prop := t.1 (a + 1) = some (cI 8 fun _ => 0) ∧ t.1 (a + 2) = some (cI 192 fun _ => 0) ∧ t.1 (a + 3) = some (cI 192 fun _ => 0) ∧ t.1 (a + 4) = some (cI 192 fun _ => 0) ∧ t.1 (a + 5) = some (cI 60 fun _ => 0) ∧ t.1 (a + 6) = some (cI 60 fun _ => 0) ∧ t.1 (a + 7) = some (cI 245760 fun _ => 0) ∧ t.1 (a + 8) = some (cI 32 fun _ => 0) ∧ t.1 (a + 9) = some (cI 32 fun _ => 0) ∧ t.1 (a + 11) = some (cI 4 fun _ => 0) ∧ t.1 (a + 13) = some (cI 4 fun _ => 0) ∧ t.1 (a + 14) = some (cI 36 fun _ => 0) ∧ t.1 (a + 15) = some (cI 4 fun _ => 0) ∧ t.1 (a + 17) = some (cI 4 fun _ => 0) ∧ t.1 (a + 18) = some (cF 1028 fun _ => 0) ∧ t.1 (a + 20) = some (cL 512 fun _ => 0) ∧ (∃ f : Nat → Int32, t.1 (a + 10) = some (cI 4 f) ∧ ∀ j, j < 4 → f j = -1) ∧ (∃ f : Nat → Int32, t.1 (a + 12) = some (cI 4 f) ∧ ∀ j, j < 4 → f j = 1) ∧ (∃ f : Nat → Int32, t.1 (a + 16) = some (cI 4 f) ∧ ∀ j, j < 4 → f j = -1) ∧ ∃ f : Nat → Int32, t.1 (a + 19) = some (cI 8 f) ∧ ∀ j, j < 8 → f j = -1
theorem i_refer {h : Nat → Option PE} {a sl : Nat} : Hr (F_X11_init a) (m_up h a (ob 10 [.null, .null, .null, .null, .int 0, .null, .null, .null, .int 0, .null, .null, .null, .null, .null, .null, .null, .null, .null, .null, .null, .null, .null]), a + 1, sl) (fun _ t => MO t.1 a 0 0 ∧ MZ t a ∧ t.2 = (a + 21, sl + 248140) ∧ ∀ q, q < a → t.1 q = h q) := by
  unfold F_X11_init
  refine ar_nA (N := 8) ar_0 (by decide) (by decide) (by simp) (fun t1 h1 => ?_)
  replace h1 : AR h a 10 [.ref (a + 1), .null, .null, .null, .int 0, .null, .null, .null, .int 0, .null, .null, .null, .null, .null, .null, .null, .null, .null, .null, .null, .null, .null] [(cI 8 fun _ => 0)] (sl + 8) t1 := h1
  refine ar_nA (N := 192) h1 (by decide) (by decide) (by simp) (fun t2 h2 => ?_)
  replace h2 : AR h a 10 [.ref (a + 1), .ref (a + 2), .null, .null, .int 0, .null, .null, .null, .int 0, .null, .null, .null, .null, .null, .null, .null, .null, .null, .null, .null, .null, .null] [(cI 8 fun _ => 0), (cI 192 fun _ => 0)] (sl + 8 + 192) t2 := h2
  refine ar_nA (N := 192) h2 (by decide) (by decide) (by simp) (fun t3 h3 => ?_)
  replace h3 : AR h a 10 [.ref (a + 1), .ref (a + 2), .ref (a + 3), .null, .int 0, .null, .null, .null, .int 0, .null, .null, .null, .null, .null, .null, .null, .null, .null, .null, .null, .null, .null] [(cI 8 fun _ => 0), (cI 192 fun _ => 0), (cI 192 fun _ => 0)] (sl + 8 + 192 + 192) t3 := h3
  refine ar_nA (N := 192) h3 (by decide) (by decide) (by simp) (fun t4 h4 => ?_)
  replace h4 : AR h a 10 [.ref (a + 1), .ref (a + 2), .ref (a + 3), .ref (a + 4), .int 0, .null, .null, .null, .int 0, .null, .null, .null, .null, .null, .null, .null, .null, .null, .null, .null, .null, .null] [(cI 8 fun _ => 0), (cI 192 fun _ => 0), (cI 192 fun _ => 0), (cI 192 fun _ => 0)] (sl + 8 + 192 + 192 + 192) t4 := h4
  refine ar_nA (N := 60) h4 (by decide) (by decide) (by simp) (fun t5 h5 => ?_)
  replace h5 : AR h a 10 [.ref (a + 1), .ref (a + 2), .ref (a + 3), .ref (a + 4), .int 0, .ref (a + 5), .null, .null, .int 0, .null, .null, .null, .null, .null, .null, .null, .null, .null, .null, .null, .null, .null] [(cI 8 fun _ => 0), (cI 192 fun _ => 0), (cI 192 fun _ => 0), (cI 192 fun _ => 0), (cI 60 fun _ => 0)] (sl + 8 + 192 + 192 + 192 + 60) t5 := h5
  refine ar_nA (N := 60) h5 (by decide) (by decide) (by simp) (fun t6 h6 => ?_)
  replace h6 : AR h a 10 [.ref (a + 1), .ref (a + 2), .ref (a + 3), .ref (a + 4), .int 0, .ref (a + 5), .ref (a + 6), .null, .int 0, .null, .null, .null, .null, .null, .null, .null, .null, .null, .null, .null, .null, .null] [(cI 8 fun _ => 0), (cI 192 fun _ => 0), (cI 192 fun _ => 0), (cI 192 fun _ => 0), (cI 60 fun _ => 0), (cI 60 fun _ => 0)] (sl + 8 + 192 + 192 + 192 + 60 + 60) t6 := h6
  refine ar_nA (N := 245760) h6 (by decide) (by decide) (by simp) (fun t7 h7 => ?_)
  replace h7 : AR h a 10 [.ref (a + 1), .ref (a + 2), .ref (a + 3), .ref (a + 4), .int 0, .ref (a + 5), .ref (a + 6), .ref (a + 7), .int 0, .null, .null, .null, .null, .null, .null, .null, .null, .null, .null, .null, .null, .null] [(cI 8 fun _ => 0), (cI 192 fun _ => 0), (cI 192 fun _ => 0), (cI 192 fun _ => 0), (cI 60 fun _ => 0), (cI 60 fun _ => 0), (cI 245760 fun _ => 0)] (sl + 8 + 192 + 192 + 192 + 60 + 60 + 245760) t7 := h7
  refine ar_nA (N := 32) h7 (by decide) (by decide) (by simp) (fun t8 h8 => ?_)
  replace h8 : AR h a 10 [.ref (a + 1), .ref (a + 2), .ref (a + 3), .ref (a + 4), .int 0, .ref (a + 5), .ref (a + 6), .ref (a + 7), .int 0, .ref (a + 8), .null, .null, .null, .null, .null, .null, .null, .null, .null, .null, .null, .null] [(cI 8 fun _ => 0), (cI 192 fun _ => 0), (cI 192 fun _ => 0), (cI 192 fun _ => 0), (cI 60 fun _ => 0), (cI 60 fun _ => 0), (cI 245760 fun _ => 0), (cI 32 fun _ => 0)] (sl + 8 + 192 + 192 + 192 + 60 + 60 + 245760 + 32) t8 := h8
  refine ar_nA (N := 32) h8 (by decide) (by decide) (by simp) (fun t9 h9 => ?_)
  replace h9 : AR h a 10 [.ref (a + 1), .ref (a + 2), .ref (a + 3), .ref (a + 4), .int 0, .ref (a + 5), .ref (a + 6), .ref (a + 7), .int 0, .ref (a + 8), .ref (a + 9), .null, .null, .null, .null, .null, .null, .null, .null, .null, .null, .null] [(cI 8 fun _ => 0), (cI 192 fun _ => 0), (cI 192 fun _ => 0), (cI 192 fun _ => 0), (cI 60 fun _ => 0), (cI 60 fun _ => 0), (cI 245760 fun _ => 0), (cI 32 fun _ => 0), (cI 32 fun _ => 0)] (sl + 8 + 192 + 192 + 192 + 60 + 60 + 245760 + 32 + 32) t9 := h9
  refine ar_nA (N := 4) h9 (by decide) (by decide) (by simp) (fun t10 h10 => ?_)
  replace h10 : AR h a 10 [.ref (a + 1), .ref (a + 2), .ref (a + 3), .ref (a + 4), .int 0, .ref (a + 5), .ref (a + 6), .ref (a + 7), .int 0, .ref (a + 8), .ref (a + 9), .ref (a + 10), .null, .null, .null, .null, .null, .null, .null, .null, .null, .null] [(cI 8 fun _ => 0), (cI 192 fun _ => 0), (cI 192 fun _ => 0), (cI 192 fun _ => 0), (cI 60 fun _ => 0), (cI 60 fun _ => 0), (cI 245760 fun _ => 0), (cI 32 fun _ => 0), (cI 32 fun _ => 0), (cI 4 fun _ => 0)] (sl + 8 + 192 + 192 + 192 + 60 + 60 + 245760 + 32 + 32 + 4) t10 := h10
  refine ar_nA (N := 4) h10 (by decide) (by decide) (by simp) (fun t11 h11 => ?_)
  replace h11 : AR h a 10 [.ref (a + 1), .ref (a + 2), .ref (a + 3), .ref (a + 4), .int 0, .ref (a + 5), .ref (a + 6), .ref (a + 7), .int 0, .ref (a + 8), .ref (a + 9), .ref (a + 10), .ref (a + 11), .null, .null, .null, .null, .null, .null, .null, .null, .null] [(cI 8 fun _ => 0), (cI 192 fun _ => 0), (cI 192 fun _ => 0), (cI 192 fun _ => 0), (cI 60 fun _ => 0), (cI 60 fun _ => 0), (cI 245760 fun _ => 0), (cI 32 fun _ => 0), (cI 32 fun _ => 0), (cI 4 fun _ => 0), (cI 4 fun _ => 0)] (sl + 8 + 192 + 192 + 192 + 60 + 60 + 245760 + 32 + 32 + 4 + 4) t11 := h11
  refine ar_nA (N := 4) h11 (by decide) (by decide) (by simp) (fun t12 h12 => ?_)
  replace h12 : AR h a 10 [.ref (a + 1), .ref (a + 2), .ref (a + 3), .ref (a + 4), .int 0, .ref (a + 5), .ref (a + 6), .ref (a + 7), .int 0, .ref (a + 8), .ref (a + 9), .ref (a + 10), .ref (a + 11), .ref (a + 12), .null, .null, .null, .null, .null, .null, .null, .null] [(cI 8 fun _ => 0), (cI 192 fun _ => 0), (cI 192 fun _ => 0), (cI 192 fun _ => 0), (cI 60 fun _ => 0), (cI 60 fun _ => 0), (cI 245760 fun _ => 0), (cI 32 fun _ => 0), (cI 32 fun _ => 0), (cI 4 fun _ => 0), (cI 4 fun _ => 0), (cI 4 fun _ => 0)] (sl + 8 + 192 + 192 + 192 + 60 + 60 + 245760 + 32 + 32 + 4 + 4 + 4) t12 := h12
  refine ar_nA (N := 4) h12 (by decide) (by decide) (by simp) (fun t13 h13 => ?_)
  replace h13 : AR h a 10 [.ref (a + 1), .ref (a + 2), .ref (a + 3), .ref (a + 4), .int 0, .ref (a + 5), .ref (a + 6), .ref (a + 7), .int 0, .ref (a + 8), .ref (a + 9), .ref (a + 10), .ref (a + 11), .ref (a + 12), .ref (a + 13), .null, .null, .null, .null, .null, .null, .null] [(cI 8 fun _ => 0), (cI 192 fun _ => 0), (cI 192 fun _ => 0), (cI 192 fun _ => 0), (cI 60 fun _ => 0), (cI 60 fun _ => 0), (cI 245760 fun _ => 0), (cI 32 fun _ => 0), (cI 32 fun _ => 0), (cI 4 fun _ => 0), (cI 4 fun _ => 0), (cI 4 fun _ => 0), (cI 4 fun _ => 0)] (sl + 8 + 192 + 192 + 192 + 60 + 60 + 245760 + 32 + 32 + 4 + 4 + 4 + 4) t13 := h13
  refine ar_nA (N := 36) h13 (by decide) (by decide) (by simp) (fun t14 h14 => ?_)
  replace h14 : AR h a 10 [.ref (a + 1), .ref (a + 2), .ref (a + 3), .ref (a + 4), .int 0, .ref (a + 5), .ref (a + 6), .ref (a + 7), .int 0, .ref (a + 8), .ref (a + 9), .ref (a + 10), .ref (a + 11), .ref (a + 12), .ref (a + 13), .ref (a + 14), .null, .null, .null, .null, .null, .null] [(cI 8 fun _ => 0), (cI 192 fun _ => 0), (cI 192 fun _ => 0), (cI 192 fun _ => 0), (cI 60 fun _ => 0), (cI 60 fun _ => 0), (cI 245760 fun _ => 0), (cI 32 fun _ => 0), (cI 32 fun _ => 0), (cI 4 fun _ => 0), (cI 4 fun _ => 0), (cI 4 fun _ => 0), (cI 4 fun _ => 0), (cI 36 fun _ => 0)] (sl + 8 + 192 + 192 + 192 + 60 + 60 + 245760 + 32 + 32 + 4 + 4 + 4 + 4 + 36) t14 := h14
  refine ar_nA (N := 4) h14 (by decide) (by decide) (by simp) (fun t15 h15 => ?_)
  replace h15 : AR h a 10 [.ref (a + 1), .ref (a + 2), .ref (a + 3), .ref (a + 4), .int 0, .ref (a + 5), .ref (a + 6), .ref (a + 7), .int 0, .ref (a + 8), .ref (a + 9), .ref (a + 10), .ref (a + 11), .ref (a + 12), .ref (a + 13), .ref (a + 14), .ref (a + 15), .null, .null, .null, .null, .null] [(cI 8 fun _ => 0), (cI 192 fun _ => 0), (cI 192 fun _ => 0), (cI 192 fun _ => 0), (cI 60 fun _ => 0), (cI 60 fun _ => 0), (cI 245760 fun _ => 0), (cI 32 fun _ => 0), (cI 32 fun _ => 0), (cI 4 fun _ => 0), (cI 4 fun _ => 0), (cI 4 fun _ => 0), (cI 4 fun _ => 0), (cI 36 fun _ => 0), (cI 4 fun _ => 0)] (sl + 8 + 192 + 192 + 192 + 60 + 60 + 245760 + 32 + 32 + 4 + 4 + 4 + 4 + 36 + 4) t15 := h15
  refine ar_nA (N := 4) h15 (by decide) (by decide) (by simp) (fun t16 h16 => ?_)
  replace h16 : AR h a 10 [.ref (a + 1), .ref (a + 2), .ref (a + 3), .ref (a + 4), .int 0, .ref (a + 5), .ref (a + 6), .ref (a + 7), .int 0, .ref (a + 8), .ref (a + 9), .ref (a + 10), .ref (a + 11), .ref (a + 12), .ref (a + 13), .ref (a + 14), .ref (a + 15), .ref (a + 16), .null, .null, .null, .null] [(cI 8 fun _ => 0), (cI 192 fun _ => 0), (cI 192 fun _ => 0), (cI 192 fun _ => 0), (cI 60 fun _ => 0), (cI 60 fun _ => 0), (cI 245760 fun _ => 0), (cI 32 fun _ => 0), (cI 32 fun _ => 0), (cI 4 fun _ => 0), (cI 4 fun _ => 0), (cI 4 fun _ => 0), (cI 4 fun _ => 0), (cI 36 fun _ => 0), (cI 4 fun _ => 0), (cI 4 fun _ => 0)] (sl + 8 + 192 + 192 + 192 + 60 + 60 + 245760 + 32 + 32 + 4 + 4 + 4 + 4 + 36 + 4 + 4) t16 := h16
  refine ar_nA (N := 4) h16 (by decide) (by decide) (by simp) (fun t17 h17 => ?_)
  replace h17 : AR h a 10 [.ref (a + 1), .ref (a + 2), .ref (a + 3), .ref (a + 4), .int 0, .ref (a + 5), .ref (a + 6), .ref (a + 7), .int 0, .ref (a + 8), .ref (a + 9), .ref (a + 10), .ref (a + 11), .ref (a + 12), .ref (a + 13), .ref (a + 14), .ref (a + 15), .ref (a + 16), .ref (a + 17), .null, .null, .null] [(cI 8 fun _ => 0), (cI 192 fun _ => 0), (cI 192 fun _ => 0), (cI 192 fun _ => 0), (cI 60 fun _ => 0), (cI 60 fun _ => 0), (cI 245760 fun _ => 0), (cI 32 fun _ => 0), (cI 32 fun _ => 0), (cI 4 fun _ => 0), (cI 4 fun _ => 0), (cI 4 fun _ => 0), (cI 4 fun _ => 0), (cI 36 fun _ => 0), (cI 4 fun _ => 0), (cI 4 fun _ => 0), (cI 4 fun _ => 0)] (sl + 8 + 192 + 192 + 192 + 60 + 60 + 245760 + 32 + 32 + 4 + 4 + 4 + 4 + 36 + 4 + 4 + 4) t17 := h17
  refine ar_nA (N := 1028) h17 (by decide) (by decide) (by simp) (fun t18 h18 => ?_)
  replace h18 : AR h a 10 [.ref (a + 1), .ref (a + 2), .ref (a + 3), .ref (a + 4), .int 0, .ref (a + 5), .ref (a + 6), .ref (a + 7), .int 0, .ref (a + 8), .ref (a + 9), .ref (a + 10), .ref (a + 11), .ref (a + 12), .ref (a + 13), .ref (a + 14), .ref (a + 15), .ref (a + 16), .ref (a + 17), .ref (a + 18), .null, .null] [(cI 8 fun _ => 0), (cI 192 fun _ => 0), (cI 192 fun _ => 0), (cI 192 fun _ => 0), (cI 60 fun _ => 0), (cI 60 fun _ => 0), (cI 245760 fun _ => 0), (cI 32 fun _ => 0), (cI 32 fun _ => 0), (cI 4 fun _ => 0), (cI 4 fun _ => 0), (cI 4 fun _ => 0), (cI 4 fun _ => 0), (cI 36 fun _ => 0), (cI 4 fun _ => 0), (cI 4 fun _ => 0), (cI 4 fun _ => 0), (cF 1028 fun _ => 0)] (sl + 8 + 192 + 192 + 192 + 60 + 60 + 245760 + 32 + 32 + 4 + 4 + 4 + 4 + 36 + 4 + 4 + 4 + 1028) t18 := h18
  refine ar_nA (N := 8) h18 (by decide) (by decide) (by simp) (fun t19 h19 => ?_)
  replace h19 : AR h a 10 [.ref (a + 1), .ref (a + 2), .ref (a + 3), .ref (a + 4), .int 0, .ref (a + 5), .ref (a + 6), .ref (a + 7), .int 0, .ref (a + 8), .ref (a + 9), .ref (a + 10), .ref (a + 11), .ref (a + 12), .ref (a + 13), .ref (a + 14), .ref (a + 15), .ref (a + 16), .ref (a + 17), .ref (a + 18), .ref (a + 19), .null] [(cI 8 fun _ => 0), (cI 192 fun _ => 0), (cI 192 fun _ => 0), (cI 192 fun _ => 0), (cI 60 fun _ => 0), (cI 60 fun _ => 0), (cI 245760 fun _ => 0), (cI 32 fun _ => 0), (cI 32 fun _ => 0), (cI 4 fun _ => 0), (cI 4 fun _ => 0), (cI 4 fun _ => 0), (cI 4 fun _ => 0), (cI 36 fun _ => 0), (cI 4 fun _ => 0), (cI 4 fun _ => 0), (cI 4 fun _ => 0), (cF 1028 fun _ => 0), (cI 8 fun _ => 0)] (sl + 8 + 192 + 192 + 192 + 60 + 60 + 245760 + 32 + 32 + 4 + 4 + 4 + 4 + 36 + 4 + 4 + 4 + 1028 + 8) t19 := h19
  refine ar_nA (N := 512) h19 (by decide) (by decide) (by simp) (fun t20 h20 => ?_)
  replace h20 : AR h a 10 [.ref (a + 1), .ref (a + 2), .ref (a + 3), .ref (a + 4), .int 0, .ref (a + 5), .ref (a + 6), .ref (a + 7), .int 0, .ref (a + 8), .ref (a + 9), .ref (a + 10), .ref (a + 11), .ref (a + 12), .ref (a + 13), .ref (a + 14), .ref (a + 15), .ref (a + 16), .ref (a + 17), .ref (a + 18), .ref (a + 19), .ref (a + 20)] [(cI 8 fun _ => 0), (cI 192 fun _ => 0), (cI 192 fun _ => 0), (cI 192 fun _ => 0), (cI 60 fun _ => 0), (cI 60 fun _ => 0), (cI 245760 fun _ => 0), (cI 32 fun _ => 0), (cI 32 fun _ => 0), (cI 4 fun _ => 0), (cI 4 fun _ => 0), (cI 4 fun _ => 0), (cI 4 fun _ => 0), (cI 36 fun _ => 0), (cI 4 fun _ => 0), (cI 4 fun _ => 0), (cI 4 fun _ => 0), (cF 1028 fun _ => 0), (cI 8 fun _ => 0), (cL 512 fun _ => 0)] (sl + 8 + 192 + 192 + 192 + 60 + 60 + 245760 + 32 + 32 + 4 + 4 + 4 + 4 + 36 + 4 + 4 + 4 + 1028 + 8 + 512) t20 := h20
  obtain ⟨g1, g2, g3, g4⟩ := h20
  have k0 : MO t20.1 a 0 0 := g1
  have k1 : t20.1 (a + 1) = some (cI 8 fun _ => 0) := g2 0 _ rfl
  have k2 : t20.1 (a + 2) = some (cI 192 fun _ => 0) := g2 1 _ rfl
  have k3 : t20.1 (a + 3) = some (cI 192 fun _ => 0) := g2 2 _ rfl
  have k4 : t20.1 (a + 4) = some (cI 192 fun _ => 0) := g2 3 _ rfl
  have k5 : t20.1 (a + 5) = some (cI 60 fun _ => 0) := g2 4 _ rfl
  have k6 : t20.1 (a + 6) = some (cI 60 fun _ => 0) := g2 5 _ rfl
  have k7 : t20.1 (a + 7) = some (cI 245760 fun _ => 0) := g2 6 _ rfl
  have k8 : t20.1 (a + 8) = some (cI 32 fun _ => 0) := g2 7 _ rfl
  have k9 : t20.1 (a + 9) = some (cI 32 fun _ => 0) := g2 8 _ rfl
  have k10 : t20.1 (a + 10) = some (cI 4 fun _ => 0) := g2 9 _ rfl
  have k11 : t20.1 (a + 11) = some (cI 4 fun _ => 0) := g2 10 _ rfl
  have k12 : t20.1 (a + 12) = some (cI 4 fun _ => 0) := g2 11 _ rfl
  have k13 : t20.1 (a + 13) = some (cI 4 fun _ => 0) := g2 12 _ rfl
  have k14 : t20.1 (a + 14) = some (cI 36 fun _ => 0) := g2 13 _ rfl
  have k15 : t20.1 (a + 15) = some (cI 4 fun _ => 0) := g2 14 _ rfl
  have k16 : t20.1 (a + 16) = some (cI 4 fun _ => 0) := g2 15 _ rfl
  have k17 : t20.1 (a + 17) = some (cI 4 fun _ => 0) := g2 16 _ rfl
  have k18 : t20.1 (a + 18) = some (cF 1028 fun _ => 0) := g2 17 _ rfl
  have k19 : t20.1 (a + 19) = some (cI 8 fun _ => 0) := g2 18 _ rfl
  have k20 : t20.1 (a + 20) = some (cL 512 fun _ => 0) := g2 19 _ rfl
  clear g2
  have hsl : ((a + 1 + 20, sl + 8 + 192 + 192 + 192 + 60 + 60 + 245760 + 32 + 32 + 4 + 4 + 4 + 4 + 36 + 4 + 4 + 4 + 1028 + 8 + 512) : Nat × Nat) = (a + 21, sl + 248140) := by
    rw [Prod.mk.injEq]
    exact ⟨by omega, by omega⟩
  refine hr_loop (σ := Int32) (fun n s => l_X11_init_164 a _ n s) (fun rec s => b_X11_init_164 a rec _ s) (fun n s => rfl) 4 (fun j s w => s = nI j ∧ w.2 = t20.2 ∧ (∀ q, q ≠ a + 10 → q ≠ a + 12 → q ≠ a + 16 → w.1 q = t20.1 q) ∧ (∃ f : Nat → Int32, w.1 (a + 10) = some (cI 4 f) ∧ ∀ x, x < j → f x = -1) ∧ (∃ f : Nat → Int32, w.1 (a + 12) = some (cI 4 f) ∧ ∀ x, x < j → f x = 1) ∧ ∃ f : Nat → Int32, w.1 (a + 16) = some (cI 4 f) ∧ ∀ x, x < j → f x = -1) ?_ ?_ 4 FU 0 0 _ (by decide) rfl ⟨rfl, rfl, fun _ _ _ _ => rfl, ⟨_, k10, fun x hx => by omega⟩, ⟨_, k12, fun x hx => by omega⟩, ⟨_, k16, fun x hx => by omega⟩⟩
  · intro j s w rec hj hI hrec
    obtain ⟨rfl, w1, w2, ⟨f1, w3, w4⟩, ⟨f2, w5, w6⟩, ⟨f3, w7, w8⟩⟩ := hI
    have m0 : w.1 a = _ := (w2 a (by omega) (by omega) (by omega)).trans k0
    unfold b_X11_init_164
    refine hr_f (nI_ge hj (by decide)) ?_
    refine hb_gRs m0 (by decide) rfl ?_
    refine hb_sI w3 (nI_in hj (by decide)) ?_
    refine hb_gRs (up_ne (by omega) m0) (by decide) rfl ?_
    refine hb_sI (up_ne (by omega) w5) (nI_in hj (by decide)) ?_
    refine hb_gRs (up_ne (by omega) (up_ne (by omega) m0)) (by decide) rfl ?_
    refine hb_sI (up_ne (by omega) (up_ne (by omega) w7)) (nI_in hj (by decide)) ?_
    rw [nI_clamp (by omega), nI_1]
    refine hrec _ _ ⟨rfl, w1, fun q a b c => up_ne c (up_ne b (up_ne a (w2 q a b c))), ⟨_, up_ne (by omega) (up_ne (by omega) (up_eq rfl)), fun x hx => ?_⟩, ⟨_, up_ne (by omega) (up_eq rfl), fun x hx => ?_⟩, ⟨_, up_eq rfl, fun x hx => ?_⟩⟩
    · by_cases e : x = j
      · rw [e, pk_us]
      · rw [pk_un e]
        exact w4 x (by omega)
    · by_cases e : x = j
      · rw [e, pk_us]
      · rw [pk_un e]
        exact w6 x (by omega)
    · by_cases e : x = j
      · rw [e, pk_us]
      · rw [pk_un e]
        exact w8 x (by omega)
  · intro s w rec hI
    obtain ⟨rfl, w1, w2, ⟨f1, w3, w4⟩, ⟨f2, w5, w6⟩, ⟨f3, w7, w8⟩⟩ := hI
    have m0 : w.1 a = _ := (w2 a (by omega) (by omega) (by omega)).trans k0
    unfold b_X11_init_164
    refine hr_t (nI_le (Nat.le_refl _) (by decide)) ?_
    refine i_fill (L := l_X11_init_198 a (rt ())) (B := fun rec s => b_X11_init_198 a rec (rt ()) s) (fun _ _ => rfl) (v := -1) (n := 8) (by decide) ((w2 _ (by omega) (by omega) (by omega)).trans k19) ?_ ?_
    · intro j u rec f hj u2 u3 hr
      unfold b_X11_init_198
      refine hr_f (nI_ge hj (by decide)) ?_
      refine hb_gRs ((u2 _ (by omega)).trans m0) (by decide) rfl ?_
      refine hb_sI u3 (nI_in hj (by decide)) ?_
      rw [nI_clamp (by omega), nI_1]
      exact hr
    · intro u rec f u1 u2 u3 u4
      unfold b_X11_init_198
      have fr : ∀ q, q ≠ a + 10 → q ≠ a + 12 → q ≠ a + 16 → q ≠ a + 19 → u.1 q = t20.1 q := fun q x y z v => (u2 q v).trans (w2 q x y z)
      refine hr_t (nI_le (Nat.le_refl _) (by decide)) (hr_rt ⟨(u2 _ (by omega)).trans m0, ?_, ((u1.trans w1).trans g3).trans hsl, fun q hq => (fr q (by omega) (by omega) (by omega) (by omega)).trans (g4 q hq)⟩)
      exact ⟨(fr _ (by omega) (by omega) (by omega) (by omega)).trans k1, (fr _ (by omega) (by omega) (by omega) (by omega)).trans k2, (fr _ (by omega) (by omega) (by omega) (by omega)).trans k3, (fr _ (by omega) (by omega) (by omega) (by omega)).trans k4, (fr _ (by omega) (by omega) (by omega) (by omega)).trans k5, (fr _ (by omega) (by omega) (by omega) (by omega)).trans k6, (fr _ (by omega) (by omega) (by omega) (by omega)).trans k7, (fr _ (by omega) (by omega) (by omega) (by omega)).trans k8, (fr _ (by omega) (by omega) (by omega) (by omega)).trans k9, (fr _ (by omega) (by omega) (by omega) (by omega)).trans k11, (fr _ (by omega) (by omega) (by omega) (by omega)).trans k13, (fr _ (by omega) (by omega) (by omega) (by omega)).trans k14, (fr _ (by omega) (by omega) (by omega) (by omega)).trans k15, (fr _ (by omega) (by omega) (by omega) (by omega)).trans k17, (fr _ (by omega) (by omega) (by omega) (by omega)).trans k18, (fr _ (by omega) (by omega) (by omega) (by omega)).trans k20, ⟨f1, (u2 _ (by omega)).trans w3, w4⟩, ⟨f2, (u2 _ (by omega)).trans w5, w6⟩, ⟨f3, (u2 _ (by omega)).trans w7, w8⟩, ⟨f, u3, u4⟩⟩
