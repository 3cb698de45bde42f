/-! ===== the law's own loop ===== -/
theorem lw_sub {L : Nat} (h : 5 ≤ L) : (Int32.ofNat L) - (5 : Int32) = nI (L - 5) := by
  have e : nI (L - 5) + nI 5 = nI L := by
    rw [nI_add]
    congr 1
    omega
  show nI L - nI 5 = _
  rw [← e]
  exact Int32.add_sub_cancel _ _
theorem lw_nlt {a b : Nat} (h : b ≤ a) (ha : a < 2 ^ 31) : ¬ nI a < nI b := by
  rw [Int32.not_lt]
  exact nI_le h ha
theorem lw_out {L j : Nat} (hL : L ≤ 2560) (h : L < 5 * j + 5) (hj : 5 * j ≤ L) : (Int32.ofNat L) - (5 : Int32) < nI (5 * j) := by
  by_cases c : 5 ≤ L
  · rw [lw_sub c, ← Int32.not_le]
    exact nI_ge (by omega) (by omega)
  · have e : j = 0 := by omega
    subst e
    match L, c with
    | 0, _ => decide
    | 1, _ => decide
    | 2, _ => decide
    | 3, _ => decide
    | 4, _ => decide
    | n + 5, c => exact absurd (Nat.le_add_left 5 n) c
section LAW
variable {xs : Nat → Int32} {L z j : Nat} {rec : Int32 → St Int32} {k : St Int32} {ws : WS} {P : Int32 → WS → Prop}
theorem lx {β : Type} {K : Int32 → St β} {Q : β → WS → Prop} {i : Nat} (hL : L ≤ 2560) (hj : 5 * j + 5 ≤ L) (hi : i < 5) (h : Hr (K (xs (5 * j + i))) ws Q) : Hr (bd (sX xs L (nI (5 * j) + nI i)) K) ws Q := by
  rw [nI_add]
  refine hb_sX (nI_in (by omega) (by omega)) ?_
  rw [nI_clamp (by omega)]
  exact h
theorem lx_0 {β : Type} {K : Int32 → St β} {Q : β → WS → Prop} (hL : L ≤ 2560) (hj : 5 * j + 5 ≤ L) (h : Hr (K (xs (5 * j))) ws Q) : Hr (bd (sX xs L (nI (5 * j))) K) ws Q := by
  refine hb_sX (nI_in (by omega) (by omega)) ?_
  rw [nI_clamp (by omega)]
  exact h
theorem lx_1 {β : Type} {K : Int32 → St β} {Q : β → WS → Prop} (hL : L ≤ 2560) (hj : 5 * j + 5 ≤ L) (h : Hr (K (xs (5 * j + 1))) ws Q) : Hr (bd (sX xs L (nI (5 * j) + (1 : Int32))) K) ws Q := lx (i := 1) hL hj (by decide) h
theorem lx_2 {β : Type} {K : Int32 → St β} {Q : β → WS → Prop} (hL : L ≤ 2560) (hj : 5 * j + 5 ≤ L) (h : Hr (K (xs (5 * j + 2))) ws Q) : Hr (bd (sX xs L (nI (5 * j) + (2 : Int32))) K) ws Q := lx (i := 2) hL hj (by decide) h
theorem lx_3 {β : Type} {K : Int32 → St β} {Q : β → WS → Prop} (hL : L ≤ 2560) (hj : 5 * j + 5 ≤ L) (h : Hr (K (xs (5 * j + 3))) ws Q) : Hr (bd (sX xs L (nI (5 * j) + (3 : Int32))) K) ws Q := lx (i := 3) hL hj (by decide) h
theorem lx_4 {β : Type} {K : Int32 → St β} {Q : β → WS → Prop} (hL : L ≤ 2560) (hj : 5 * j + 5 ≤ L) (h : Hr (K (xs (5 * j + 4))) ws Q) : Hr (bd (sX xs L (nI (5 * j) + (4 : Int32))) K) ws Q := lx (i := 4) hL hj (by decide) h
theorem l9 {β : Type} {K : Nat × Nat → St β} {Q : β → WS → Prop} {N : Nat} (hI : INV z N ws) (h : Hr (K (z, 9)) ws Q) : Hr (bd (dr [9] (some z)) K) ws Q := by
  obtain ⟨tk, nc, m, Z, ca, cc, ce, so, wk, vl, kp, a, -⟩ := hI
  exact hb_dr a.1.1 (by decide) h
theorem jn_go {α β : Type} {F1 F2 : St α} {K : α → St β} {Q : β → WS → Prop} {N : Nat} (h : JN F1 F2 z N ws) (hk : ∀ r t, (∃ fs : List Value, t.1 (z + 62) = some (.inr (10, fs))) → Hr F2 t (fun r2 t2 => r = r2 ∧ INV z (N + 1) t2) → Hr (K r) t Q) : Hr (bd F1 K) ws Q := hb_c h (fun r t ht => hk r t ht.1 ht.2)
def RC (rec : Int32 → St Int32) (z j : Nat) (P : Int32 → WS → Prop) : Prop := ∀ t, INV z (j + 1) t → Hr (rec (nI (5 * (j + 1)))) t P
theorem lw_end (hr : RC rec z j P) (hI : INV z (j + 1) ws) : Hr (j_L_law_1414 xs L rec k z (z + 62) (nI (5 * j))) ws P := by
  unfold j_L_law_1414
  rw [show nI (5 * j) + (5 : Int32) = nI (5 * j + 5) from nI_add (5 * j) 5]
  exact hr ws hI
theorem w_184 (hL : L ≤ 2560) (hj : 5 * j + 5 ≤ L) (hI : INV z j ws) (hr : RC rec z j P) : Hr (j_L_law_184 xs L rec k z (z + 62) (nI (5 * j))) ws P := by
  unfold j_L_law_184
  refine lx_1 hL hj ?_
  refine lx_2 hL hj ?_
  refine lx_3 hL hj ?_
  refine lx_4 hL hj ?_
  refine l9 hI ?_
  refine jn_go (n_reading hI) (fun r t hf h2 => ?_)
  obtain ⟨fs, hfs⟩ := hf
  refine lx_1 hL hj ?_
  refine lx_2 hL hj ?_
  refine lx_3 hL hj ?_
  refine lx_4 hL hj ?_
  refine hb_dr hfs (by decide) ?_
  refine hb_c h2 (fun r2 t2 ht => ?_)
  obtain ⟨rfl, hi⟩ := ht
  exact hr_t rfl (lw_end hr hi)
theorem w_237 (hL : L ≤ 2560) (hj : 5 * j + 5 ≤ L) (hI : INV z j ws) (hr : RC rec z j P) : Hr (j_L_law_237 xs L rec k z (z + 62) (nI (5 * j))) ws P := by
  unfold j_L_law_237
  refine lx_1 hL hj ?_
  refine lx_2 hL hj ?_
  refine l9 hI ?_
  refine jn_go (n_drop hI) (fun r t hf h2 => ?_)
  obtain ⟨fs, hfs⟩ := hf
  refine lx_1 hL hj ?_
  refine lx_2 hL hj ?_
  refine hb_dr hfs (by decide) ?_
  refine hb_c h2 (fun r2 t2 ht => ?_)
  obtain ⟨rfl, hi⟩ := ht
  exact hr_t rfl (lw_end hr hi)
theorem w_270 (hL : L ≤ 2560) (hj : 5 * j + 5 ≤ L) (hI : INV z j ws) (hr : RC rec z j P) : Hr (j_L_law_270 xs L rec k z (z + 62) (nI (5 * j))) ws P := by
  unfold j_L_law_270
  refine lx_1 hL hj ?_
  refine l9 hI ?_
  refine jn_go (n_line hI) (fun r t hf h2 => ?_)
  obtain ⟨fs, hfs⟩ := hf
  refine lx_1 hL hj ?_
  refine hb_dr hfs (by decide) ?_
  refine hb_c h2 (fun r2 t2 ht => ?_)
  obtain ⟨rfl, hi⟩ := ht
  exact hr_t rfl (lw_end hr hi)
theorem w_293 (hL : L ≤ 2560) (hj : 5 * j + 5 ≤ L) (hI : INV z j ws) (hr : RC rec z j P) : Hr (j_L_law_293 xs L rec k z (z + 62) (nI (5 * j))) ws P := by
  unfold j_L_law_293
  refine lx_1 hL hj ?_
  refine lx_2 hL hj ?_
  refine l9 hI ?_
  refine jn_go (n_knot hI) (fun r t hf h2 => ?_)
  obtain ⟨fs, hfs⟩ := hf
  refine lx_1 hL hj ?_
  refine lx_2 hL hj ?_
  refine hb_dr hfs (by decide) ?_
  refine hb_c h2 (fun r2 t2 ht => ?_)
  obtain ⟨rfl, hi⟩ := ht
  exact hr_t rfl (lw_end hr hi)
theorem w_326 (hL : L ≤ 2560) (hj : 5 * j + 5 ≤ L) (hI : INV z j ws) (hr : RC rec z j P) : Hr (j_L_law_326 xs L rec k z (z + 62) (nI (5 * j))) ws P := by
  unfold j_L_law_326
  refine l9 hI ?_
  refine jn_go (n_hush hI) (fun r t hf h2 => ?_)
  obtain ⟨fs, hfs⟩ := hf
  refine hb_dr hfs (by decide) ?_
  refine hb_c h2 (fun r2 t2 ht => ?_)
  obtain ⟨rfl, hi⟩ := ht
  exact hr_t rfl (lw_end hr hi)
theorem w_339 (hL : L ≤ 2560) (hj : 5 * j + 5 ≤ L) (hI : INV z j ws) (hr : RC rec z j P) : Hr (j_L_law_339 xs L rec k z (z + 62) (nI (5 * j))) ws P := by
  unfold j_L_law_339
  refine l9 hI ?_
  refine jn_go (n_pieces hI) (fun r t hf h2 => ?_)
  obtain ⟨fs, hfs⟩ := hf
  refine hb_dr hfs (by decide) ?_
  refine hb_c h2 (fun r2 t2 ht => ?_)
  obtain ⟨rfl, hi⟩ := ht
  exact hr_t rfl (lw_end hr hi)
theorem w_352 (hL : L ≤ 2560) (hj : 5 * j + 5 ≤ L) (hI : INV z j ws) (hr : RC rec z j P) : Hr (j_L_law_352 xs L rec k z (z + 62) (nI (5 * j))) ws P := by
  unfold j_L_law_352
  refine lx_1 hL hj ?_
  refine l9 hI ?_
  refine jn_go (n_gather hI) (fun r t hf h2 => ?_)
  obtain ⟨fs, hfs⟩ := hf
  refine lx_1 hL hj ?_
  refine hb_dr hfs (by decide) ?_
  refine hb_c h2 (fun r2 t2 ht => ?_)
  obtain ⟨rfl, hi⟩ := ht
  exact hr_t rfl (lw_end hr hi)
theorem w_375 (hL : L ≤ 2560) (hj : 5 * j + 5 ≤ L) (hI : INV z j ws) (hr : RC rec z j P) : Hr (j_L_law_375 xs L rec k z (z + 62) (nI (5 * j))) ws P := by
  unfold j_L_law_375
  refine lx_1 hL hj ?_
  refine lx_2 hL hj ?_
  refine lx_3 hL hj ?_
  refine l9 hI ?_
  refine jn_go (n_clamp hI) (fun r t hf h2 => ?_)
  obtain ⟨fs, hfs⟩ := hf
  refine lx_1 hL hj ?_
  refine lx_2 hL hj ?_
  refine lx_3 hL hj ?_
  refine hb_dr hfs (by decide) ?_
  refine hb_c h2 (fun r2 t2 ht => ?_)
  obtain ⟨rfl, hi⟩ := ht
  exact hr_t rfl (lw_end hr hi)
theorem w_418 (hL : L ≤ 2560) (hj : 5 * j + 5 ≤ L) (hI : INV z j ws) (hr : RC rec z j P) : Hr (j_L_law_418 xs L rec k z (z + 62) (nI (5 * j))) ws P := by
  unfold j_L_law_418
  refine lx_1 hL hj ?_
  refine lx_2 hL hj ?_
  refine lx_3 hL hj ?_
  refine lx_4 hL hj ?_
  refine l9 hI ?_
  refine jn_go (n_dead hI) (fun r t hf h2 => ?_)
  obtain ⟨fs, hfs⟩ := hf
  refine lx_1 hL hj ?_
  refine lx_2 hL hj ?_
  refine lx_3 hL hj ?_
  refine lx_4 hL hj ?_
  refine hb_dr hfs (by decide) ?_
  refine hb_c h2 (fun r2 t2 ht => ?_)
  obtain ⟨rfl, hi⟩ := ht
  exact hr_t rfl (lw_end hr hi)
theorem w_471 (hL : L ≤ 2560) (hj : 5 * j + 5 ≤ L) (hI : INV z j ws) (hr : RC rec z j P) : Hr (j_L_law_471 xs L rec k z (z + 62) (nI (5 * j))) ws P := by
  unfold j_L_law_471
  refine lx_1 hL hj ?_
  refine lx_2 hL hj ?_
  refine l9 hI ?_
  refine jn_go (n_chain hI) (fun r t hf h2 => ?_)
  obtain ⟨fs, hfs⟩ := hf
  refine lx_1 hL hj ?_
  refine lx_2 hL hj ?_
  refine hb_dr hfs (by decide) ?_
  refine hb_c h2 (fun r2 t2 ht => ?_)
  obtain ⟨rfl, hi⟩ := ht
  exact hr_t rfl (lw_end hr hi)
theorem w_504 (hL : L ≤ 2560) (hj : 5 * j + 5 ≤ L) (hI : INV z j ws) (hr : RC rec z j P) : Hr (j_L_law_504 xs L rec k z (z + 62) (nI (5 * j))) ws P := by
  unfold j_L_law_504
  refine lx_1 hL hj ?_
  refine lx_2 hL hj ?_
  refine lx_3 hL hj ?_
  refine lx_4 hL hj ?_
  refine l9 hI ?_
  refine jn_go (n_gain hI) (fun r t hf h2 => ?_)
  obtain ⟨fs, hfs⟩ := hf
  refine lx_1 hL hj ?_
  refine lx_2 hL hj ?_
  refine lx_3 hL hj ?_
  refine lx_4 hL hj ?_
  refine hb_dr hfs (by decide) ?_
  refine hb_c h2 (fun r2 t2 ht => ?_)
  obtain ⟨rfl, hi⟩ := ht
  exact hr_t rfl (lw_end hr hi)
theorem w_557 (hL : L ≤ 2560) (hj : 5 * j + 5 ≤ L) (hI : INV z j ws) (hr : RC rec z j P) : Hr (j_L_law_557 xs L rec k z (z + 62) (nI (5 * j))) ws P := by
  unfold j_L_law_557
  refine lx_1 hL hj ?_
  refine l9 hI ?_
  refine jn_go (n_mirror hI) (fun r t hf h2 => ?_)
  obtain ⟨fs, hfs⟩ := hf
  refine lx_1 hL hj ?_
  refine hb_dr hfs (by decide) ?_
  refine hb_c h2 (fun r2 t2 ht => ?_)
  obtain ⟨rfl, hi⟩ := ht
  exact hr_t rfl (lw_end hr hi)
theorem w_580 (hL : L ≤ 2560) (hj : 5 * j + 5 ≤ L) (hI : INV z j ws) (hr : RC rec z j P) : Hr (j_L_law_580 xs L rec k z (z + 62) (nI (5 * j))) ws P := by
  unfold j_L_law_580
  refine lx_1 hL hj ?_
  refine lx_2 hL hj ?_
  refine l9 hI ?_
  refine jn_go (n_value hI) (fun r t hf h2 => ?_)
  obtain ⟨fs, hfs⟩ := hf
  refine lx_1 hL hj ?_
  refine lx_2 hL hj ?_
  refine hb_dr hfs (by decide) ?_
  refine hb_c h2 (fun r2 t2 ht => ?_)
  obtain ⟨rfl, hi⟩ := ht
  exact hr_t rfl (lw_end hr hi)
theorem w_613 (hL : L ≤ 2560) (hj : 5 * j + 5 ≤ L) (hI : INV z j ws) (hr : RC rec z j P) : Hr (j_L_law_613 xs L rec k z (z + 62) (nI (5 * j))) ws P := by
  unfold j_L_law_613
  refine lx_1 hL hj ?_
  refine lx_2 hL hj ?_
  refine l9 hI ?_
  refine jn_go (n_about hI) (fun r t hf h2 => ?_)
  obtain ⟨fs, hfs⟩ := hf
  refine lx_1 hL hj ?_
  refine lx_2 hL hj ?_
  refine hb_dr hfs (by decide) ?_
  refine hb_c h2 (fun r2 t2 ht => ?_)
  obtain ⟨rfl, hi⟩ := ht
  exact hr_t rfl (lw_end hr hi)
theorem w_646 (hL : L ≤ 2560) (hj : 5 * j + 5 ≤ L) (hI : INV z j ws) (hr : RC rec z j P) : Hr (j_L_law_646 xs L rec k z (z + 62) (nI (5 * j))) ws P := by
  unfold j_L_law_646
  refine lx_1 hL hj ?_
  refine lx_2 hL hj ?_
  refine l9 hI ?_
  refine jn_go (n_turn hI) (fun r t hf h2 => ?_)
  obtain ⟨fs, hfs⟩ := hf
  refine lx_1 hL hj ?_
  refine lx_2 hL hj ?_
  refine hb_dr hfs (by decide) ?_
  refine hb_c h2 (fun r2 t2 ht => ?_)
  obtain ⟨rfl, hi⟩ := ht
  exact hr_t rfl (lw_end hr hi)
theorem w_679 (hL : L ≤ 2560) (hj : 5 * j + 5 ≤ L) (hI : INV z j ws) (hr : RC rec z j P) : Hr (j_L_law_679 xs L rec k z (z + 62) (nI (5 * j))) ws P := by
  unfold j_L_law_679
  refine lx_1 hL hj ?_
  refine lx_2 hL hj ?_
  refine l9 hI ?_
  refine jn_go (n_inverse hI) (fun r t hf h2 => ?_)
  obtain ⟨fs, hfs⟩ := hf
  refine lx_1 hL hj ?_
  refine lx_2 hL hj ?_
  refine hb_dr hfs (by decide) ?_
  refine hb_c h2 (fun r2 t2 ht => ?_)
  obtain ⟨rfl, hi⟩ := ht
  exact hr_t rfl (lw_end hr hi)
theorem w_712 (hL : L ≤ 2560) (hj : 5 * j + 5 ≤ L) (hI : INV z j ws) (hr : RC rec z j P) : Hr (j_L_law_712 xs L rec k z (z + 62) (nI (5 * j))) ws P := by
  unfold j_L_law_712
  refine lx_1 hL hj ?_
  refine lx_2 hL hj ?_
  refine lx_3 hL hj ?_
  refine l9 hI ?_
  refine jn_go (n_residual hI) (fun r t hf h2 => ?_)
  obtain ⟨fs, hfs⟩ := hf
  refine lx_1 hL hj ?_
  refine lx_2 hL hj ?_
  refine lx_3 hL hj ?_
  refine hb_dr hfs (by decide) ?_
  refine hb_c h2 (fun r2 t2 ht => ?_)
  obtain ⟨rfl, hi⟩ := ht
  exact hr_t rfl (lw_end hr hi)
theorem w_755 (hL : L ≤ 2560) (hj : 5 * j + 5 ≤ L) (hI : INV z j ws) (hr : RC rec z j P) : Hr (j_L_law_755 xs L rec k z (z + 62) (nI (5 * j))) ws P := by
  unfold j_L_law_755
  refine lx_1 hL hj ?_
  refine lx_2 hL hj ?_
  refine l9 hI ?_
  refine jn_go (n_worst hI) (fun r t hf h2 => ?_)
  obtain ⟨fs, hfs⟩ := hf
  refine lx_1 hL hj ?_
  refine lx_2 hL hj ?_
  refine hb_dr hfs (by decide) ?_
  refine hb_c h2 (fun r2 t2 ht => ?_)
  obtain ⟨rfl, hi⟩ := ht
  exact hr_t rfl (lw_end hr hi)
theorem w_788 (hL : L ≤ 2560) (hj : 5 * j + 5 ≤ L) (hI : INV z j ws) (hr : RC rec z j P) : Hr (j_L_law_788 xs L rec k z (z + 62) (nI (5 * j))) ws P := by
  unfold j_L_law_788
  refine lx_1 hL hj ?_
  refine lx_2 hL hj ?_
  refine l9 hI ?_
  refine jn_go (n_squares hI) (fun r t hf h2 => ?_)
  obtain ⟨fs, hfs⟩ := hf
  refine lx_1 hL hj ?_
  refine lx_2 hL hj ?_
  refine hb_dr hfs (by decide) ?_
  refine hb_c h2 (fun r2 t2 ht => ?_)
  obtain ⟨rfl, hi⟩ := ht
  exact hr_t ((lg_cmp_eq _ _).mpr rfl) (lw_end hr hi)
theorem w_822 (hL : L ≤ 2560) (hj : 5 * j + 5 ≤ L) (hI : INV z j ws) (hr : RC rec z j P) : Hr (j_L_law_822 xs L rec k z (z + 62) (nI (5 * j))) ws P := by
  unfold j_L_law_822
  refine lx_1 hL hj ?_
  refine lx_2 hL hj ?_
  refine l9 hI ?_
  refine jn_go (n_drift hI) (fun r t hf h2 => ?_)
  obtain ⟨fs, hfs⟩ := hf
  refine lx_1 hL hj ?_
  refine lx_2 hL hj ?_
  refine hb_dr hfs (by decide) ?_
  refine hb_c h2 (fun r2 t2 ht => ?_)
  obtain ⟨rfl, hi⟩ := ht
  exact hr_t rfl (lw_end hr hi)
theorem w_855 (hL : L ≤ 2560) (hj : 5 * j + 5 ≤ L) (hI : INV z j ws) (hr : RC rec z j P) : Hr (j_L_law_855 xs L rec k z (z + 62) (nI (5 * j))) ws P := by
  unfold j_L_law_855
  refine lx_1 hL hj ?_
  refine lx_2 hL hj ?_
  refine lx_3 hL hj ?_
  refine lx_4 hL hj ?_
  refine l9 hI ?_
  refine jn_go (n_probe hI) (fun r t hf h2 => ?_)
  obtain ⟨fs, hfs⟩ := hf
  refine lx_1 hL hj ?_
  refine lx_2 hL hj ?_
  refine lx_3 hL hj ?_
  refine lx_4 hL hj ?_
  refine hb_dr hfs (by decide) ?_
  refine hb_c h2 (fun r2 t2 ht => ?_)
  obtain ⟨rfl, hi⟩ := ht
  exact hr_t rfl (lw_end hr hi)
theorem w_908 (hL : L ≤ 2560) (hj : 5 * j + 5 ≤ L) (hI : INV z j ws) (hr : RC rec z j P) : Hr (j_L_law_908 xs L rec k z (z + 62) (nI (5 * j))) ws P := by
  unfold j_L_law_908
  refine lx_1 hL hj ?_
  refine lx_2 hL hj ?_
  refine l9 hI ?_
  refine jn_go (n_feed hI) (fun r t hf h2 => ?_)
  obtain ⟨fs, hfs⟩ := hf
  refine lx_1 hL hj ?_
  refine lx_2 hL hj ?_
  refine hb_dr hfs (by decide) ?_
  refine hb_c h2 (fun r2 t2 ht => ?_)
  obtain ⟨rfl, hi⟩ := ht
  exact hr_t rfl (lw_end hr hi)
theorem w_941 (hL : L ≤ 2560) (hj : 5 * j + 5 ≤ L) (hI : INV z j ws) (hr : RC rec z j P) : Hr (j_L_law_941 xs L rec k z (z + 62) (nI (5 * j))) ws P := by
  unfold j_L_law_941
  refine lx_1 hL hj ?_
  refine l9 hI ?_
  refine jn_go (n_probed hI) (fun r t hf h2 => ?_)
  obtain ⟨fs, hfs⟩ := hf
  refine lx_1 hL hj ?_
  refine hb_dr hfs (by decide) ?_
  refine hb_c h2 (fun r2 t2 ht => ?_)
  obtain ⟨rfl, hi⟩ := ht
  exact hr_t rfl (lw_end hr hi)
theorem w_964 (hL : L ≤ 2560) (hj : 5 * j + 5 ≤ L) (hI : INV z j ws) (hr : RC rec z j P) : Hr (j_L_law_964 xs L rec k z (z + 62) (nI (5 * j))) ws P := by
  unfold j_L_law_964
  refine lx_1 hL hj ?_
  refine lx_2 hL hj ?_
  refine lx_3 hL hj ?_
  refine l9 hI ?_
  refine jn_go (n_table hI) (fun r t hf h2 => ?_)
  obtain ⟨fs, hfs⟩ := hf
  refine lx_1 hL hj ?_
  refine lx_2 hL hj ?_
  refine lx_3 hL hj ?_
  refine hb_dr hfs (by decide) ?_
  refine hb_c h2 (fun r2 t2 ht => ?_)
  obtain ⟨rfl, hi⟩ := ht
  exact hr_t rfl (lw_end hr hi)
theorem w_1007 (hL : L ≤ 2560) (hj : 5 * j + 5 ≤ L) (hI : INV z j ws) (hr : RC rec z j P) : Hr (j_L_law_1007 xs L rec k z (z + 62) (nI (5 * j))) ws P := by
  unfold j_L_law_1007
  refine lx_1 hL hj ?_
  refine lx_2 hL hj ?_
  refine l9 hI ?_
  refine jn_go (n_entry hI) (fun r t hf h2 => ?_)
  obtain ⟨fs, hfs⟩ := hf
  refine lx_1 hL hj ?_
  refine lx_2 hL hj ?_
  refine hb_dr hfs (by decide) ?_
  refine hb_c h2 (fun r2 t2 ht => ?_)
  obtain ⟨rfl, hi⟩ := ht
  exact hr_br (fun _ => lw_end hr hi) (fun n => hr_f n (hr_f n (lw_end hr hi)))
theorem w_1068 (hL : L ≤ 2560) (hj : 5 * j + 5 ≤ L) (hI : INV z j ws) (hr : RC rec z j P) : Hr (j_L_law_1068 xs L rec k z (z + 62) (nI (5 * j))) ws P := by
  unfold j_L_law_1068
  refine lx_1 hL hj ?_
  refine lx_2 hL hj ?_
  refine l9 hI ?_
  refine jn_go (n_lookup hI) (fun r t hf h2 => ?_)
  obtain ⟨fs, hfs⟩ := hf
  refine lx_1 hL hj ?_
  refine lx_2 hL hj ?_
  refine hb_dr hfs (by decide) ?_
  refine hb_c h2 (fun r2 t2 ht => ?_)
  obtain ⟨rfl, hi⟩ := ht
  exact hr_br (fun _ => lw_end hr hi) (fun n => hr_f n (hr_f n (lw_end hr hi)))
theorem w_1129 (hL : L ≤ 2560) (hj : 5 * j + 5 ≤ L) (hI : INV z j ws) (hr : RC rec z j P) : Hr (j_L_law_1129 xs L rec k z (z + 62) (nI (5 * j))) ws P := by
  unfold j_L_law_1129
  refine lx_1 hL hj ?_
  refine l9 hI ?_
  refine jn_go (n_off hI) (fun r t hf h2 => ?_)
  obtain ⟨fs, hfs⟩ := hf
  refine lx_1 hL hj ?_
  refine hb_dr hfs (by decide) ?_
  refine hb_c h2 (fun r2 t2 ht => ?_)
  obtain ⟨rfl, hi⟩ := ht
  exact hr_br (fun _ => lw_end hr hi) (fun n => hr_f n (hr_f n (lw_end hr hi)))
theorem w_1180 (hL : L ≤ 2560) (hj : 5 * j + 5 ≤ L) (hI : INV z j ws) (hr : RC rec z j P) : Hr (j_L_law_1180 xs L rec k z (z + 62) (nI (5 * j))) ws P := by
  unfold j_L_law_1180
  refine lx_1 hL hj ?_
  refine l9 hI ?_
  refine jn_go (n_offAt hI) (fun r t hf h2 => ?_)
  obtain ⟨fs, hfs⟩ := hf
  refine lx_1 hL hj ?_
  refine hb_dr hfs (by decide) ?_
  refine hb_c h2 (fun r2 t2 ht => ?_)
  obtain ⟨rfl, hi⟩ := ht
  exact hr_t rfl (lw_end hr hi)
theorem w_1203 (hL : L ≤ 2560) (hj : 5 * j + 5 ≤ L) (hI : INV z j ws) (hr : RC rec z j P) : Hr (j_L_law_1203 xs L rec k z (z + 62) (nI (5 * j))) ws P := by
  unfold j_L_law_1203
  refine lx_1 hL hj ?_
  refine lx_2 hL hj ?_
  refine l9 hI ?_
  refine jn_go (n_bank hI) (fun r t hf h2 => ?_)
  obtain ⟨fs, hfs⟩ := hf
  refine lx_1 hL hj ?_
  refine lx_2 hL hj ?_
  refine hb_dr hfs (by decide) ?_
  refine hb_c h2 (fun r2 t2 ht => ?_)
  obtain ⟨rfl, hi⟩ := ht
  exact hr_t ((lg_cmp_eq _ _).mpr rfl) (lw_end hr hi)
theorem w_1237 (hL : L ≤ 2560) (hj : 5 * j + 5 ≤ L) (hI : INV z j ws) (hr : RC rec z j P) : Hr (j_L_law_1237 xs L rec k z (z + 62) (nI (5 * j))) ws P := by
  unfold j_L_law_1237
  refine lx_1 hL hj ?_
  refine l9 hI ?_
  refine jn_go (n_free hI) (fun r t hf h2 => ?_)
  obtain ⟨fs, hfs⟩ := hf
  refine lx_1 hL hj ?_
  refine hb_dr hfs (by decide) ?_
  refine hb_c h2 (fun r2 t2 ht => ?_)
  obtain ⟨rfl, hi⟩ := ht
  exact hr_t rfl (lw_end hr hi)
theorem w_1260 (hL : L ≤ 2560) (hj : 5 * j + 5 ≤ L) (hI : INV z j ws) (hr : RC rec z j P) : Hr (j_L_law_1260 xs L rec k z (z + 62) (nI (5 * j))) ws P := by
  unfold j_L_law_1260
  refine lx_1 hL hj ?_
  refine lx_2 hL hj ?_
  refine lx_3 hL hj ?_
  refine lx_4 hL hj ?_
  refine l9 hI ?_
  refine jn_go (n_hold hI) (fun r t hf h2 => ?_)
  obtain ⟨fs, hfs⟩ := hf
  refine lx_1 hL hj ?_
  refine lx_2 hL hj ?_
  refine lx_3 hL hj ?_
  refine lx_4 hL hj ?_
  refine hb_dr hfs (by decide) ?_
  refine hb_c h2 (fun r2 t2 ht => ?_)
  obtain ⟨rfl, hi⟩ := ht
  exact hr_t ((lg_cmp_eq _ _).mpr rfl) (lw_end hr hi)
theorem w_1334 (hL : L ≤ 2560) (hj : 5 * j + 5 ≤ L) (hI : INV z j ws) (hr : RC rec z j P) : Hr (j_L_law_1334 xs L rec k z (z + 62) (nI (5 * j))) ws P := by
  unfold j_L_law_1334
  refine lx_1 hL hj ?_
  refine lx_2 hL hj ?_
  refine l9 hI ?_
  refine jn_go (n_held hI) (fun r t hf h2 => ?_)
  obtain ⟨fs, hfs⟩ := hf
  refine lx_1 hL hj ?_
  refine lx_2 hL hj ?_
  refine hb_dr hfs (by decide) ?_
  refine hb_c h2 (fun r2 t2 ht => ?_)
  obtain ⟨rfl, hi⟩ := ht
  exact hr_t ((lg_cmp_eq _ _).mpr rfl) (lw_end hr hi)
theorem w_1368 (hL : L ≤ 2560) (hj : 5 * j + 5 ≤ L) (hI : INV z j ws) (hr : RC rec z j P) : Hr (j_L_law_1368 xs L rec k z (z + 62) (nI (5 * j))) ws P := by
  unfold j_L_law_1368
  refine lx_1 hL hj ?_
  refine l9 hI ?_
  refine jn_go (n_readings hI) (fun r t hf h2 => ?_)
  obtain ⟨fs, hfs⟩ := hf
  refine lx_1 hL hj ?_
  refine hb_dr hfs (by decide) ?_
  refine hb_c h2 (fun r2 t2 ht => ?_)
  obtain ⟨rfl, hi⟩ := ht
  exact hr_t rfl (lw_end hr hi)
theorem w_1391 (hL : L ≤ 2560) (hj : 5 * j + 5 ≤ L) (hI : INV z j ws) (hr : RC rec z j P) : Hr (j_L_law_1391 xs L rec k z (z + 62) (nI (5 * j))) ws P := by
  unfold j_L_law_1391
  refine lx_1 hL hj ?_
  refine l9 hI ?_
  refine jn_go (n_count hI) (fun r t hf h2 => ?_)
  obtain ⟨fs, hfs⟩ := hf
  refine lx_1 hL hj ?_
  refine hb_dr hfs (by decide) ?_
  refine hb_c h2 (fun r2 t2 ht => ?_)
  obtain ⟨rfl, hi⟩ := ht
  exact hr_t rfl (lw_end hr hi)
theorem lw_body (hL : L ≤ 2560) (hj : 5 * j + 5 ≤ L) (hI : INV z j ws) (hr : RC rec z j P) : Hr (b_L_law_18 xs L z (z + 62) rec k (nI (5 * j))) ws P := by
  unfold b_L_law_18
  refine hr_f ?_ ?_
  · rw [show (Int32.ofNat L) - (5 : Int32) = nI (L - 5) from lw_sub (by omega)]
    exact lw_nlt (by omega) (by omega)
  refine lx_0 hL hj ?_
  refine hb_rt ?_
  refine hr_br (fun _ => w_184 hL hj hI hr) (fun _ => ?_)
  refine hr_br (fun _ => w_237 hL hj hI hr) (fun _ => ?_)
  refine hr_br (fun _ => w_270 hL hj hI hr) (fun _ => ?_)
  refine hr_br (fun _ => w_293 hL hj hI hr) (fun _ => ?_)
  refine hr_br (fun _ => w_326 hL hj hI hr) (fun _ => ?_)
  refine hr_br (fun _ => w_339 hL hj hI hr) (fun _ => ?_)
  refine hr_br (fun _ => w_352 hL hj hI hr) (fun _ => ?_)
  refine hr_br (fun _ => w_375 hL hj hI hr) (fun _ => ?_)
  refine hr_br (fun _ => w_418 hL hj hI hr) (fun _ => ?_)
  refine hr_br (fun _ => w_471 hL hj hI hr) (fun _ => ?_)
  refine hr_br (fun _ => w_504 hL hj hI hr) (fun _ => ?_)
  refine hr_br (fun _ => w_557 hL hj hI hr) (fun _ => ?_)
  refine hr_br (fun _ => w_580 hL hj hI hr) (fun _ => ?_)
  refine hr_br (fun _ => w_613 hL hj hI hr) (fun _ => ?_)
  refine hr_br (fun _ => w_646 hL hj hI hr) (fun _ => ?_)
  refine hr_br (fun _ => w_679 hL hj hI hr) (fun _ => ?_)
  refine hr_br (fun _ => w_712 hL hj hI hr) (fun _ => ?_)
  refine hr_br (fun _ => w_755 hL hj hI hr) (fun _ => ?_)
  refine hr_br (fun _ => w_788 hL hj hI hr) (fun _ => ?_)
  refine hr_br (fun _ => w_822 hL hj hI hr) (fun _ => ?_)
  refine hr_br (fun _ => w_855 hL hj hI hr) (fun _ => ?_)
  refine hr_br (fun _ => w_908 hL hj hI hr) (fun _ => ?_)
  refine hr_br (fun _ => w_941 hL hj hI hr) (fun _ => ?_)
  refine hr_br (fun _ => w_964 hL hj hI hr) (fun _ => ?_)
  refine hr_br (fun _ => w_1007 hL hj hI hr) (fun _ => ?_)
  refine hr_br (fun _ => w_1068 hL hj hI hr) (fun _ => ?_)
  refine hr_br (fun _ => w_1129 hL hj hI hr) (fun _ => ?_)
  refine hr_br (fun _ => w_1180 hL hj hI hr) (fun _ => ?_)
  refine hr_br (fun _ => w_1203 hL hj hI hr) (fun _ => ?_)
  refine hr_br (fun _ => w_1237 hL hj hI hr) (fun _ => ?_)
  refine hr_br (fun _ => w_1260 hL hj hI hr) (fun _ => ?_)
  refine hr_br (fun _ => w_1334 hL hj hI hr) (fun _ => ?_)
  refine hr_br (fun _ => w_1368 hL hj hI hr) (fun _ => ?_)
  refine hr_br (fun _ => w_1391 hL hj hI hr) (fun _ => ?_)
  exact lw_end hr hI.same
/-- the room at the end -/
theorem lw_room {N : Nat} (hI : INV z N ws) (hN : N ≤ 512) : ws.2.1 ≤ z + 600000 ∧ ws.2.2 ≤ 7302250 := by
  obtain ⟨tk, nc, m, Z, ca, cc, ce, so, wk, vl, kp, a, -, -, -, -, -, g⟩ := hI
  have h := a.1.2.2.2.2.1
  obtain ⟨g1, g2⟩ := g
  constructor <;> omega
theorem lw_loop (hL : L ≤ 2560) (hI : INV z 0 ws) : Hr (l_L_law_18 xs L z (z + 62) (rt (1 : Int32)) FU 0) ws (fun r t => r = 1 ∧ t.2.1 ≤ z + 600000 ∧ t.2.2 ≤ 7302250) := by
  refine hr_loop (σ := Int32) (fun n s => l_L_law_18 xs L z (z + 62) _ n s) (fun rec s => b_L_law_18 xs L z (z + 62) rec _ s) (fun n s => rfl) (L / 5) (fun j s w => s = nI (5 * j) ∧ INV z j w) ?_ ?_ (L / 5) FU 0 0 _ (by unfold FU; omega) (by omega) ⟨rfl, hI⟩
  · intro j s w rec hj hI hrec
    obtain ⟨rfl, hi⟩ := hI
    exact lw_body hL (by omega) hi (fun t ht => hrec _ t ⟨rfl, ht⟩)
  · intro s w rec hI
    obtain ⟨rfl, hi⟩ := hI
    unfold b_L_law_18
    refine hr_t (lw_out (by omega) (by omega) (by omega)) (hr_rt ⟨rfl, lw_room hi (by omega)⟩)
theorem law_runs (hL : L ≤ 2560) : Hr (F_L_law xs L) (fun _ => none, z, 0) (fun r t => r = 1 ∧ t.2.1 ≤ z + 600000 ∧ t.2.2 ≤ 7302250) := by
  unfold F_L_law
  exact i_start (K := fun a1 a3 => l_L_law_18 xs L a1 a3 (rt (1 : Int32)) FU (0 : Int32)) (fun u hu => lw_loop hL hu)
end LAW
