/-! ===== the form of a curve ===== -/
theorem ts_eq {v : Nat → Int32} {x : Nat} (h : wy v x = 0) (h1 : 1 ≤ x) : ts v (x + 1) = ts v x := by
  show (if x = 0 then _ else _) = _
  rw [if_neg (by omega), if_pos h]
theorem ts_turn {v : Nat → Int32} {x : Nat} (h : isT v x) : ts v (x + 1) = (wy v x, (ts v x).2 + 1) := by
  obtain ⟨a, b, c⟩ := h
  show (if x = 0 then _ else _) = _
  rw [if_neg (by omega), if_neg b, if_pos c]
theorem ts_no {v : Nat → Int32} {x : Nat} (h1 : 1 ≤ x) (h : ¬ wy v x = 0) (h2 : ¬ wy v x = -(ts v x).1) : ts v (x + 1) = (wy v x, (ts v x).2) := by
  show (if x = 0 then _ else _) = _
  rw [if_neg (by omega), if_neg h, if_neg h2]
theorem ts_1 {v : Nat → Int32} : ts v 1 = (0, 0) := rfl
theorem ts_step {v : Nat → Int32} (x : Nat) : (ts v x).2 ≤ (ts v (x + 1)).2 ∧ (ts v (x + 1)).2 ≤ (ts v x).2 + 1 := by
  by_cases h0 : x = 0
  · subst h0
    exact ⟨Nat.le_refl _, Nat.zero_le _⟩
  · by_cases h : wy v x = 0
    · rw [ts_eq h (by omega)]
      omega
    · by_cases h2 : wy v x = -(ts v x).1
      · rw [ts_turn ⟨by omega, h, h2⟩]
        dsimp only
        omega
      · rw [ts_no (by omega) h h2]
        dsimp only
        omega
theorem ts_le {v : Nat → Int32} : ∀ x : Nat, (ts v x).2 ≤ x := by
  intro x
  induction x with
  | zero => exact Nat.le_refl _
  | succ x ih =>
    have := ts_step (v := v) x
    omega
theorem ts_mono {v : Nat → Int32} {x : Nat} : ∀ y : Nat, x ≤ y → (ts v x).2 ≤ (ts v y).2 := by
  intro y
  induction y with
  | zero => intro h; rw [show x = 0 by omega]; exact Nat.le_refl _
  | succ y ih =>
    intro h
    by_cases e : x = y + 1
    · rw [e]; exact Nat.le_refl _
    · have := ih (by omega)
      have := ts_step (v := v) y
      omega
theorem ts_lt {v : Nat → Int32} {x y : Nat} (h : isT v x) (hy : x < y) : (ts v x).2 < (ts v y).2 := by
  have h1 := ts_mono (v := v) (x := x + 1) y hy
  rw [ts_turn h] at h1
  exact h1
theorem ts_ex {v : Nat → Int32} {k : Nat} : ∀ n : Nat, k < (ts v n).2 → ∃ x, x < n ∧ isT v x ∧ (ts v x).2 = k := by
  intro n
  induction n with
  | zero => intro h; exact absurd h (Nat.not_lt_zero _)
  | succ n ih =>
    intro h
    by_cases h2 : k < (ts v n).2
    · obtain ⟨x, a, b⟩ := ih h2
      exact ⟨x, by omega, b⟩
    · have hs := ts_step (v := v) n
      by_cases hn0 : n = 0
      · subst hn0
        exact absurd h (Nat.not_lt_zero _)
      · refine ⟨n, by omega, ?_, by omega⟩
        refine ⟨by omega, fun e => ?_, ?_⟩
        · rw [ts_eq e (by omega)] at h
          omega
        · by_cases e : wy v n = -(ts v n).1
          · exact e
          · by_cases e0 : wy v n = 0
            · rw [ts_eq e0 (by omega)] at h
              omega
            · rw [ts_no (by omega) e0 e] at h
              exact absurd h h2
/-- a change tells which ways there were -/
theorem ts_way {v : Nat → Int32} : ∀ n : Nat, ((ts v n).1 = 0 ∧ (ts v n).2 = 0) ∨ ((ts v n).1 = 1 ∧ ups v n ∧ (0 < (ts v n).2 → downs v n)) ∨ ((ts v n).1 = -1 ∧ downs v n ∧ (0 < (ts v n).2 → ups v n)) := by
  intro n
  induction n with
  | zero => exact Or.inl ⟨rfl, rfl⟩
  | succ n ih =>
    have hu : ups v n → ups v (n + 1) := fun ⟨x, a, b, c⟩ => ⟨x, a, by omega, c⟩
    have hd : downs v n → downs v (n + 1) := fun ⟨x, a, b, c⟩ => ⟨x, a, by omega, c⟩
    by_cases h0 : n = 0
    · subst h0
      exact Or.inl ⟨rfl, rfl⟩
    · by_cases h : wy v n = 0
      · rw [ts_eq h (by omega)]
        rcases ih with a | ⟨a, b, c⟩ | ⟨a, b, c⟩
        · exact Or.inl a
        · exact Or.inr (Or.inl ⟨a, hu b, fun z => hd (c z)⟩)
        · exact Or.inr (Or.inr ⟨a, hd b, fun z => hu (c z)⟩)
      · have hw : (wy v n = -1 ∧ downs v (n + 1)) ∨ (wy v n = 1 ∧ ups v (n + 1)) := by
          unfold wy at h ⊢
          by_cases e : v n = v (n - 1)
          · rw [if_pos e] at h
            exact absurd rfl h
          · rw [if_neg e]
            by_cases e2 : v n ≤ v (n - 1)
            · rw [if_pos e2]
              exact Or.inl ⟨rfl, n, by omega, by omega, Int32.lt_of_le_of_ne e2 e⟩
            · rw [if_neg e2]
              exact Or.inr ⟨rfl, n, by omega, by omega, Int32.not_le.mp e2⟩
        by_cases h2 : wy v n = -(ts v n).1
        · rw [ts_turn ⟨by omega, h, h2⟩]
          dsimp only
          rcases hw with ⟨w1, w2⟩ | ⟨w1, w2⟩
          · refine Or.inr (Or.inr ⟨w1, w2, fun _ => ?_⟩)
            rcases ih with a | ⟨a, b, c⟩ | ⟨a, b, c⟩
            · rw [w1, a.1] at h2
              exact absurd h2 (by decide)
            · exact hu b
            · rw [w1, a] at h2
              exact absurd h2 (by decide)
          · refine Or.inr (Or.inl ⟨w1, w2, fun _ => ?_⟩)
            rcases ih with a | ⟨a, b, c⟩ | ⟨a, b, c⟩
            · rw [w1, a.1] at h2
              exact absurd h2 (by decide)
            · rw [w1, a] at h2
              exact absurd h2 (by decide)
            · exact hd b
        · rw [ts_no (by omega) h h2]
          dsimp only
          rcases hw with ⟨w1, w2⟩ | ⟨w1, w2⟩
          · refine Or.inr (Or.inr ⟨w1, w2, fun z => ?_⟩)
            rcases ih with a | ⟨a, b, c⟩ | ⟨a, b, c⟩
            · exact absurd z (by omega)
            · exact hu b
            · exact hu (c z)
          · refine Or.inr (Or.inl ⟨w1, w2, fun z => ?_⟩)
            rcases ih with a | ⟨a, b, c⟩ | ⟨a, b, c⟩
            · exact absurd z (by omega)
            · exact hd (c z)
            · exact hd b
theorem c_findTurns {ws : WS} {ra ta len : Nat} {f g v : Nat → Int32} (hr : ws.1 ra = some (cI 4096 f)) (hf : ∀ x, x < 4096 → f x = v x) (ht : ws.1 ta = some (cI len g)) (hne : ra ≠ ta) (hlen : len < 2 ^ 31) : Hr (F_X2_findTurns (some ra) (some ta)) ws (fun r t => r = nI (ts v 4096).2 ∧ t.2 = ws.2 ∧ (∀ q, q ≠ ta → t.1 q = ws.1 q) ∧ ∃ g2 : Nat → Int32, t.1 ta = some (cI len g2) ∧ ∀ y, y < 4096 → isT v y → (ts v y).2 < len → g2 (ts v y).2 = nI y) := by
  unfold F_X2_findTurns
  refine hr_loop (σ := Int32 × Int32 × Int32) (fun n s => l_X2_findTurns_7 (some ra) (some ta) _ n s.1 s.2.1 s.2.2) (fun rec s => b_X2_findTurns_7 (some ra) (some ta) (fun a b c => rec (a, b, c)) _ s.1 s.2.1 s.2.2) (fun n s => rfl) 4096 (fun x s w => 1 ≤ x ∧ s = (nI (ts v x).2, (ts v x).1, nI x) ∧ w.2 = ws.2 ∧ (∀ q, q ≠ ta → w.1 q = ws.1 q) ∧ ∃ g2 : Nat → Int32, w.1 ta = some (cI len g2) ∧ ∀ y, y < x → isT v y → (ts v y).2 < len → g2 (ts v y).2 = nI y) ?_ ?_ 4095 FU 1 (0, 0, 1) _ (by decide) rfl ⟨Nat.le_refl _, rfl, rfl, fun _ _ => rfl, g, ht, fun y hy hT => by have := hT.1; omega⟩
  · intro x s w rec hx hI hrec
    obtain ⟨h1, rfl, w1, w2, g2, w3, w4⟩ := hI
    have hrw : w.1 ra = some (cI 4096 f) := (w2 ra hne).trans hr
    have hcx : (nI x).toNatClampNeg = x := nI_clamp (by omega)
    have hcx1 : (nI (x - 1)).toNatClampNeg = x - 1 := nI_clamp (by omega)
    have htl := ts_le (v := v) x
    dsimp only
    unfold b_X2_findTurns_7
    refine hr_f (nI_ge hx (by decide)) ?_
    rw [nI_pred1 (show 0 < x by omega)]
    (repeat (first | (with_reducible refine hb_rt ?_) | ((with_reducible apply hb_gRs); (focus (first | assumption | exact up_eq rfl | exact up_ne (by omega) (by assumption) | exact up_ne (by omega) (up_eq rfl) | exact up_ne (by omega) (up_ne (by omega) (by assumption)) | exact up_ne (by omega) (up_ne (by omega) (up_eq rfl)) | exact up_ne (by omega) (up_ne (by omega) (up_ne (by omega) (by assumption))) | exact up_ne (by omega) (up_ne (by omega) (up_ne (by omega) (up_eq rfl))) | exact up_ne (by omega) (up_ne (by omega) (up_ne (by omega) (up_ne (by omega) (by assumption)))) | exact up_ne (by omega) (up_ne (by omega) (up_ne (by omega) (up_ne (by omega) (up_eq rfl)))))); (focus decide); (focus rfl)) | ((with_reducible apply hb_gI); (focus (first | assumption | exact up_eq rfl | exact up_ne (by omega) (by assumption) | exact up_ne (by omega) (up_eq rfl) | exact up_ne (by omega) (up_ne (by omega) (by assumption)) | exact up_ne (by omega) (up_ne (by omega) (up_eq rfl)) | exact up_ne (by omega) (up_ne (by omega) (up_ne (by omega) (by assumption))) | exact up_ne (by omega) (up_ne (by omega) (up_ne (by omega) (up_eq rfl))) | exact up_ne (by omega) (up_ne (by omega) (up_ne (by omega) (up_ne (by omega) (by assumption)))) | exact up_ne (by omega) (up_ne (by omega) (up_ne (by omega) (up_ne (by omega) (up_eq rfl)))))); (focus decide); (focus rfl)) | ((with_reducible apply hb_gRn); (focus (first | assumption | exact up_eq rfl | exact up_ne (by omega) (by assumption) | exact up_ne (by omega) (up_eq rfl) | exact up_ne (by omega) (up_ne (by omega) (by assumption)) | exact up_ne (by omega) (up_ne (by omega) (up_eq rfl)) | exact up_ne (by omega) (up_ne (by omega) (up_ne (by omega) (by assumption))) | exact up_ne (by omega) (up_ne (by omega) (up_ne (by omega) (up_eq rfl))) | exact up_ne (by omega) (up_ne (by omega) (up_ne (by omega) (up_ne (by omega) (by assumption)))) | exact up_ne (by omega) (up_ne (by omega) (up_ne (by omega) (up_ne (by omega) (up_eq rfl)))))); (focus decide); (focus rfl)) | ((with_reducible apply hb_gL); (focus (first | assumption | exact up_eq rfl | exact up_ne (by omega) (by assumption) | exact up_ne (by omega) (up_eq rfl) | exact up_ne (by omega) (up_ne (by omega) (by assumption)) | exact up_ne (by omega) (up_ne (by omega) (up_eq rfl)) | exact up_ne (by omega) (up_ne (by omega) (up_ne (by omega) (by assumption))) | exact up_ne (by omega) (up_ne (by omega) (up_ne (by omega) (up_eq rfl))) | exact up_ne (by omega) (up_ne (by omega) (up_ne (by omega) (up_ne (by omega) (by assumption)))) | exact up_ne (by omega) (up_ne (by omega) (up_ne (by omega) (up_ne (by omega) (up_eq rfl)))))); (focus decide); (focus rfl)) | ((with_reducible apply hb_gD); (focus (first | assumption | exact up_eq rfl | exact up_ne (by omega) (by assumption) | exact up_ne (by omega) (up_eq rfl) | exact up_ne (by omega) (up_ne (by omega) (by assumption)) | exact up_ne (by omega) (up_ne (by omega) (up_eq rfl)) | exact up_ne (by omega) (up_ne (by omega) (up_ne (by omega) (by assumption))) | exact up_ne (by omega) (up_ne (by omega) (up_ne (by omega) (up_eq rfl))) | exact up_ne (by omega) (up_ne (by omega) (up_ne (by omega) (up_ne (by omega) (by assumption)))) | exact up_ne (by omega) (up_ne (by omega) (up_ne (by omega) (up_ne (by omega) (up_eq rfl)))))); (focus decide); (focus rfl)) | ((with_reducible apply hb_gR); (focus (first | assumption | exact up_eq rfl | exact up_ne (by omega) (by assumption) | exact up_ne (by omega) (up_eq rfl) | exact up_ne (by omega) (up_ne (by omega) (by assumption)) | exact up_ne (by omega) (up_ne (by omega) (up_eq rfl)) | exact up_ne (by omega) (up_ne (by omega) (up_ne (by omega) (by assumption))) | exact up_ne (by omega) (up_ne (by omega) (up_ne (by omega) (up_eq rfl))) | exact up_ne (by omega) (up_ne (by omega) (up_ne (by omega) (up_ne (by omega) (by assumption)))) | exact up_ne (by omega) (up_ne (by omega) (up_ne (by omega) (up_ne (by omega) (up_eq rfl)))))); (focus decide); (focus rfl)) | ((with_reducible apply hb_dr); (focus (first | assumption | exact up_eq rfl | exact up_ne (by omega) (by assumption) | exact up_ne (by omega) (up_eq rfl) | exact up_ne (by omega) (up_ne (by omega) (by assumption)) | exact up_ne (by omega) (up_ne (by omega) (up_eq rfl)) | exact up_ne (by omega) (up_ne (by omega) (up_ne (by omega) (by assumption))) | exact up_ne (by omega) (up_ne (by omega) (up_ne (by omega) (up_eq rfl))) | exact up_ne (by omega) (up_ne (by omega) (up_ne (by omega) (up_ne (by omega) (by assumption)))) | exact up_ne (by omega) (up_ne (by omega) (up_ne (by omega) (up_ne (by omega) (up_eq rfl)))))); (focus decide)) | ((with_reducible apply hb_aI); (focus (first | assumption | exact up_eq rfl | exact up_ne (by omega) (by assumption) | exact up_ne (by omega) (up_eq rfl) | exact up_ne (by omega) (up_ne (by omega) (by assumption)) | exact up_ne (by omega) (up_ne (by omega) (up_eq rfl)) | exact up_ne (by omega) (up_ne (by omega) (up_ne (by omega) (by assumption))) | exact up_ne (by omega) (up_ne (by omega) (up_ne (by omega) (up_eq rfl))) | exact up_ne (by omega) (up_ne (by omega) (up_ne (by omega) (up_ne (by omega) (by assumption)))) | exact up_ne (by omega) (up_ne (by omega) (up_ne (by omega) (up_ne (by omega) (up_eq rfl)))))); (focus (first | assumption | exact nI_in (by omega) (by decide) | decide))) | ((with_reducible apply hb_sI); (focus (first | assumption | exact up_eq rfl | exact up_ne (by omega) (by assumption) | exact up_ne (by omega) (up_eq rfl) | exact up_ne (by omega) (up_ne (by omega) (by assumption)) | exact up_ne (by omega) (up_ne (by omega) (up_eq rfl)) | exact up_ne (by omega) (up_ne (by omega) (up_ne (by omega) (by assumption))) | exact up_ne (by omega) (up_ne (by omega) (up_ne (by omega) (up_eq rfl))) | exact up_ne (by omega) (up_ne (by omega) (up_ne (by omega) (up_ne (by omega) (by assumption)))) | exact up_ne (by omega) (up_ne (by omega) (up_ne (by omega) (up_ne (by omega) (up_eq rfl)))))); (focus (first | assumption | exact nI_in (by omega) (by decide) | decide))) | ((with_reducible apply hb_aR); (focus (first | assumption | exact up_eq rfl | exact up_ne (by omega) (by assumption) | exact up_ne (by omega) (up_eq rfl) | exact up_ne (by omega) (up_ne (by omega) (by assumption)) | exact up_ne (by omega) (up_ne (by omega) (up_eq rfl)) | exact up_ne (by omega) (up_ne (by omega) (up_ne (by omega) (by assumption))) | exact up_ne (by omega) (up_ne (by omega) (up_ne (by omega) (up_eq rfl))) | exact up_ne (by omega) (up_ne (by omega) (up_ne (by omega) (up_ne (by omega) (by assumption)))) | exact up_ne (by omega) (up_ne (by omega) (up_ne (by omega) (up_ne (by omega) (up_eq rfl)))))); (focus (first | assumption | exact nI_in (by omega) (by decide) | decide))) | ((with_reducible apply hb_aL); (focus (first | assumption | exact up_eq rfl | exact up_ne (by omega) (by assumption) | exact up_ne (by omega) (up_eq rfl) | exact up_ne (by omega) (up_ne (by omega) (by assumption)) | exact up_ne (by omega) (up_ne (by omega) (up_eq rfl)) | exact up_ne (by omega) (up_ne (by omega) (up_ne (by omega) (by assumption))) | exact up_ne (by omega) (up_ne (by omega) (up_ne (by omega) (up_eq rfl))) | exact up_ne (by omega) (up_ne (by omega) (up_ne (by omega) (up_ne (by omega) (by assumption)))) | exact up_ne (by omega) (up_ne (by omega) (up_ne (by omega) (up_ne (by omega) (up_eq rfl)))))); (focus (first | assumption | exact nI_in (by omega) (by decide) | decide))) | ((with_reducible apply hb_sL); (focus (first | assumption | exact up_eq rfl | exact up_ne (by omega) (by assumption) | exact up_ne (by omega) (up_eq rfl) | exact up_ne (by omega) (up_ne (by omega) (by assumption)) | exact up_ne (by omega) (up_ne (by omega) (up_eq rfl)) | exact up_ne (by omega) (up_ne (by omega) (up_ne (by omega) (by assumption))) | exact up_ne (by omega) (up_ne (by omega) (up_ne (by omega) (up_eq rfl))) | exact up_ne (by omega) (up_ne (by omega) (up_ne (by omega) (up_ne (by omega) (by assumption)))) | exact up_ne (by omega) (up_ne (by omega) (up_ne (by omega) (up_ne (by omega) (up_eq rfl)))))); (focus (first | assumption | exact nI_in (by omega) (by decide) | decide))) | ((with_reducible apply hb_pV); (focus (first | assumption | exact up_eq rfl | exact up_ne (by omega) (by assumption) | exact up_ne (by omega) (up_eq rfl) | exact up_ne (by omega) (up_ne (by omega) (by assumption)) | exact up_ne (by omega) (up_ne (by omega) (up_eq rfl)) | exact up_ne (by omega) (up_ne (by omega) (up_ne (by omega) (by assumption))) | exact up_ne (by omega) (up_ne (by omega) (up_ne (by omega) (up_eq rfl))) | exact up_ne (by omega) (up_ne (by omega) (up_ne (by omega) (up_ne (by omega) (by assumption)))) | exact up_ne (by omega) (up_ne (by omega) (up_ne (by omega) (up_ne (by omega) (up_eq rfl)))))); (focus decide); (focus simp))))
    rw [hcx, hcx1, hf x hx, hf (x - 1) (by omega)]
    refine hr_br (fun b1 => ?_) (fun b1 => ?_)
    · have hwy : wy v x = 0 := by unfold wy; rw [if_pos b1]
      unfold j_X2_findTurns_75
      rw [nI_1]
      refine hrec _ w ⟨by omega, ?_, w1, w2, g2, w3, fun y hy hT => ?_⟩
      · rw [ts_eq hwy h1]
      · by_cases e : y = x
        · rw [e] at hT
          exact absurd hwy hT.2.1
        · exact w4 y (by omega) hT
    · (repeat (first | (with_reducible refine hb_rt ?_) | ((with_reducible apply hb_gRs); (focus (first | assumption | exact up_eq rfl | exact up_ne (by omega) (by assumption) | exact up_ne (by omega) (up_eq rfl) | exact up_ne (by omega) (up_ne (by omega) (by assumption)) | exact up_ne (by omega) (up_ne (by omega) (up_eq rfl)) | exact up_ne (by omega) (up_ne (by omega) (up_ne (by omega) (by assumption))) | exact up_ne (by omega) (up_ne (by omega) (up_ne (by omega) (up_eq rfl))) | exact up_ne (by omega) (up_ne (by omega) (up_ne (by omega) (up_ne (by omega) (by assumption)))) | exact up_ne (by omega) (up_ne (by omega) (up_ne (by omega) (up_ne (by omega) (up_eq rfl)))))); (focus decide); (focus rfl)) | ((with_reducible apply hb_gI); (focus (first | assumption | exact up_eq rfl | exact up_ne (by omega) (by assumption) | exact up_ne (by omega) (up_eq rfl) | exact up_ne (by omega) (up_ne (by omega) (by assumption)) | exact up_ne (by omega) (up_ne (by omega) (up_eq rfl)) | exact up_ne (by omega) (up_ne (by omega) (up_ne (by omega) (by assumption))) | exact up_ne (by omega) (up_ne (by omega) (up_ne (by omega) (up_eq rfl))) | exact up_ne (by omega) (up_ne (by omega) (up_ne (by omega) (up_ne (by omega) (by assumption)))) | exact up_ne (by omega) (up_ne (by omega) (up_ne (by omega) (up_ne (by omega) (up_eq rfl)))))); (focus decide); (focus rfl)) | ((with_reducible apply hb_gRn); (focus (first | assumption | exact up_eq rfl | exact up_ne (by omega) (by assumption) | exact up_ne (by omega) (up_eq rfl) | exact up_ne (by omega) (up_ne (by omega) (by assumption)) | exact up_ne (by omega) (up_ne (by omega) (up_eq rfl)) | exact up_ne (by omega) (up_ne (by omega) (up_ne (by omega) (by assumption))) | exact up_ne (by omega) (up_ne (by omega) (up_ne (by omega) (up_eq rfl))) | exact up_ne (by omega) (up_ne (by omega) (up_ne (by omega) (up_ne (by omega) (by assumption)))) | exact up_ne (by omega) (up_ne (by omega) (up_ne (by omega) (up_ne (by omega) (up_eq rfl)))))); (focus decide); (focus rfl)) | ((with_reducible apply hb_gL); (focus (first | assumption | exact up_eq rfl | exact up_ne (by omega) (by assumption) | exact up_ne (by omega) (up_eq rfl) | exact up_ne (by omega) (up_ne (by omega) (by assumption)) | exact up_ne (by omega) (up_ne (by omega) (up_eq rfl)) | exact up_ne (by omega) (up_ne (by omega) (up_ne (by omega) (by assumption))) | exact up_ne (by omega) (up_ne (by omega) (up_ne (by omega) (up_eq rfl))) | exact up_ne (by omega) (up_ne (by omega) (up_ne (by omega) (up_ne (by omega) (by assumption)))) | exact up_ne (by omega) (up_ne (by omega) (up_ne (by omega) (up_ne (by omega) (up_eq rfl)))))); (focus decide); (focus rfl)) | ((with_reducible apply hb_gD); (focus (first | assumption | exact up_eq rfl | exact up_ne (by omega) (by assumption) | exact up_ne (by omega) (up_eq rfl) | exact up_ne (by omega) (up_ne (by omega) (by assumption)) | exact up_ne (by omega) (up_ne (by omega) (up_eq rfl)) | exact up_ne (by omega) (up_ne (by omega) (up_ne (by omega) (by assumption))) | exact up_ne (by omega) (up_ne (by omega) (up_ne (by omega) (up_eq rfl))) | exact up_ne (by omega) (up_ne (by omega) (up_ne (by omega) (up_ne (by omega) (by assumption)))) | exact up_ne (by omega) (up_ne (by omega) (up_ne (by omega) (up_ne (by omega) (up_eq rfl)))))); (focus decide); (focus rfl)) | ((with_reducible apply hb_gR); (focus (first | assumption | exact up_eq rfl | exact up_ne (by omega) (by assumption) | exact up_ne (by omega) (up_eq rfl) | exact up_ne (by omega) (up_ne (by omega) (by assumption)) | exact up_ne (by omega) (up_ne (by omega) (up_eq rfl)) | exact up_ne (by omega) (up_ne (by omega) (up_ne (by omega) (by assumption))) | exact up_ne (by omega) (up_ne (by omega) (up_ne (by omega) (up_eq rfl))) | exact up_ne (by omega) (up_ne (by omega) (up_ne (by omega) (up_ne (by omega) (by assumption)))) | exact up_ne (by omega) (up_ne (by omega) (up_ne (by omega) (up_ne (by omega) (up_eq rfl)))))); (focus decide); (focus rfl)) | ((with_reducible apply hb_dr); (focus (first | assumption | exact up_eq rfl | exact up_ne (by omega) (by assumption) | exact up_ne (by omega) (up_eq rfl) | exact up_ne (by omega) (up_ne (by omega) (by assumption)) | exact up_ne (by omega) (up_ne (by omega) (up_eq rfl)) | exact up_ne (by omega) (up_ne (by omega) (up_ne (by omega) (by assumption))) | exact up_ne (by omega) (up_ne (by omega) (up_ne (by omega) (up_eq rfl))) | exact up_ne (by omega) (up_ne (by omega) (up_ne (by omega) (up_ne (by omega) (by assumption)))) | exact up_ne (by omega) (up_ne (by omega) (up_ne (by omega) (up_ne (by omega) (up_eq rfl)))))); (focus decide)) | ((with_reducible apply hb_aI); (focus (first | assumption | exact up_eq rfl | exact up_ne (by omega) (by assumption) | exact up_ne (by omega) (up_eq rfl) | exact up_ne (by omega) (up_ne (by omega) (by assumption)) | exact up_ne (by omega) (up_ne (by omega) (up_eq rfl)) | exact up_ne (by omega) (up_ne (by omega) (up_ne (by omega) (by assumption))) | exact up_ne (by omega) (up_ne (by omega) (up_ne (by omega) (up_eq rfl))) | exact up_ne (by omega) (up_ne (by omega) (up_ne (by omega) (up_ne (by omega) (by assumption)))) | exact up_ne (by omega) (up_ne (by omega) (up_ne (by omega) (up_ne (by omega) (up_eq rfl)))))); (focus (first | assumption | exact nI_in (by omega) (by decide) | decide))) | ((with_reducible apply hb_sI); (focus (first | assumption | exact up_eq rfl | exact up_ne (by omega) (by assumption) | exact up_ne (by omega) (up_eq rfl) | exact up_ne (by omega) (up_ne (by omega) (by assumption)) | exact up_ne (by omega) (up_ne (by omega) (up_eq rfl)) | exact up_ne (by omega) (up_ne (by omega) (up_ne (by omega) (by assumption))) | exact up_ne (by omega) (up_ne (by omega) (up_ne (by omega) (up_eq rfl))) | exact up_ne (by omega) (up_ne (by omega) (up_ne (by omega) (up_ne (by omega) (by assumption)))) | exact up_ne (by omega) (up_ne (by omega) (up_ne (by omega) (up_ne (by omega) (up_eq rfl)))))); (focus (first | assumption | exact nI_in (by omega) (by decide) | decide))) | ((with_reducible apply hb_aR); (focus (first | assumption | exact up_eq rfl | exact up_ne (by omega) (by assumption) | exact up_ne (by omega) (up_eq rfl) | exact up_ne (by omega) (up_ne (by omega) (by assumption)) | exact up_ne (by omega) (up_ne (by omega) (up_eq rfl)) | exact up_ne (by omega) (up_ne (by omega) (up_ne (by omega) (by assumption))) | exact up_ne (by omega) (up_ne (by omega) (up_ne (by omega) (up_eq rfl))) | exact up_ne (by omega) (up_ne (by omega) (up_ne (by omega) (up_ne (by omega) (by assumption)))) | exact up_ne (by omega) (up_ne (by omega) (up_ne (by omega) (up_ne (by omega) (up_eq rfl)))))); (focus (first | assumption | exact nI_in (by omega) (by decide) | decide))) | ((with_reducible apply hb_aL); (focus (first | assumption | exact up_eq rfl | exact up_ne (by omega) (by assumption) | exact up_ne (by omega) (up_eq rfl) | exact up_ne (by omega) (up_ne (by omega) (by assumption)) | exact up_ne (by omega) (up_ne (by omega) (up_eq rfl)) | exact up_ne (by omega) (up_ne (by omega) (up_ne (by omega) (by assumption))) | exact up_ne (by omega) (up_ne (by omega) (up_ne (by omega) (up_eq rfl))) | exact up_ne (by omega) (up_ne (by omega) (up_ne (by omega) (up_ne (by omega) (by assumption)))) | exact up_ne (by omega) (up_ne (by omega) (up_ne (by omega) (up_ne (by omega) (up_eq rfl)))))); (focus (first | assumption | exact nI_in (by omega) (by decide) | decide))) | ((with_reducible apply hb_sL); (focus (first | assumption | exact up_eq rfl | exact up_ne (by omega) (by assumption) | exact up_ne (by omega) (up_eq rfl) | exact up_ne (by omega) (up_ne (by omega) (by assumption)) | exact up_ne (by omega) (up_ne (by omega) (up_eq rfl)) | exact up_ne (by omega) (up_ne (by omega) (up_ne (by omega) (by assumption))) | exact up_ne (by omega) (up_ne (by omega) (up_ne (by omega) (up_eq rfl))) | exact up_ne (by omega) (up_ne (by omega) (up_ne (by omega) (up_ne (by omega) (by assumption)))) | exact up_ne (by omega) (up_ne (by omega) (up_ne (by omega) (up_ne (by omega) (up_eq rfl)))))); (focus (first | assumption | exact nI_in (by omega) (by decide) | decide))) | ((with_reducible apply hb_pV); (focus (first | assumption | exact up_eq rfl | exact up_ne (by omega) (by assumption) | exact up_ne (by omega) (up_eq rfl) | exact up_ne (by omega) (up_ne (by omega) (by assumption)) | exact up_ne (by omega) (up_ne (by omega) (up_eq rfl)) | exact up_ne (by omega) (up_ne (by omega) (up_ne (by omega) (by assumption))) | exact up_ne (by omega) (up_ne (by omega) (up_ne (by omega) (up_eq rfl))) | exact up_ne (by omega) (up_ne (by omega) (up_ne (by omega) (up_ne (by omega) (by assumption)))) | exact up_ne (by omega) (up_ne (by omega) (up_ne (by omega) (up_ne (by omega) (up_eq rfl)))))); (focus decide); (focus simp))))
      rw [hcx, hcx1, hf x hx, hf (x - 1) (by omega)]
      have key : ¬ wy v x = 0 → Hr (j_X2_findTurns_49 (fun a b c => rec (a, b, c)) (fun e11 => rt e11) (some ra) (some ta) (nI (ts v x).2) (ts v x).1 (nI x) (wy v x)) w (fun r t => r = nI (ts v 4096).2 ∧ t.2 = ws.2 ∧ (∀ q, q ≠ ta → t.1 q = ws.1 q) ∧ ∃ g2 : Nat → Int32, t.1 ta = some (cI len g2) ∧ ∀ y, y < 4096 → isT v y → (ts v y).2 < len → g2 (ts v y).2 = nI y) := by
        intro hwy
        unfold j_X2_findTurns_49
        refine hr_br (fun b2 => ?_) (fun b2 => ?_)
        · have hT : isT v x := ⟨h1, hwy, b2⟩
          refine hb_aN w3 ?_
          have hln : Int32.ofNat len = nI len := rfl
          dsimp only
          rw [hln]
          by_cases hl : len ≤ (ts v x).2
          · refine hr_t (nI_le hl (by omega)) ?_
            unfold j_X2_findTurns_69 j_X2_findTurns_72 j_X2_findTurns_75
            rw [nI_1, nI_1]
            refine hrec _ w ⟨by omega, by rw [ts_turn hT], w1, w2, g2, w3, fun y hy hTy hln => ?_⟩
            by_cases e : y = x
            · rw [e] at hln
              omega
            · exact w4 y (by omega) hTy hln
          · refine hr_f (nI_ge (by omega) hlen) ?_
            refine hb_sI w3 (nI_in (by omega) hlen) ?_
            rw [nI_clamp (by omega)]
            unfold j_X2_findTurns_69 j_X2_findTurns_72 j_X2_findTurns_75
            rw [nI_1, nI_1]
            refine hrec _ _ ⟨by omega, by rw [ts_turn hT], w1, fun q hq => up_ne hq (w2 q hq), _, up_eq rfl, fun y hy hTy hln => ?_⟩
            by_cases e : y = x
            · rw [e]
              exact pk_us
            · rw [pk_un (by have := ts_lt hTy (show y < x by omega); omega)]
              exact w4 y (by omega) hTy hln
        · unfold j_X2_findTurns_72 j_X2_findTurns_75
          rw [nI_1]
          refine hrec _ w ⟨by omega, by rw [ts_no h1 hwy b2], w1, w2, g2, w3, fun y hy hT => ?_⟩
          by_cases e : y = x
          · rw [e] at hT
            exact absurd hT.2.2 b2
          · exact w4 y (by omega) hT
      refine hr_br (fun b2 => ?_) (fun b2 => ?_)
      · have e : wy v x = -1 := by unfold wy; rw [if_neg b1, if_pos b2]
        rw [e] at key
        exact key (by decide)
      · have e : wy v x = 1 := by unfold wy; rw [if_neg b1, if_neg b2]
        rw [e] at key
        exact key (by decide)
  · intro s w rec hI
    obtain ⟨h1, rfl, w1, w2, g2, w3, w4⟩ := hI
    dsimp only
    unfold b_X2_findTurns_7
    refine hr_t (nI_le (Nat.le_refl _) (by decide)) ?_
    exact hr_rt ⟨rfl, w1, w2, g2, w3, w4⟩
