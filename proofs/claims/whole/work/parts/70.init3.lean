/-! ===== the constructor of the object under test ===== -/
theorem i_loops {z S : Nat} {w0 : WS} (d0 : FO w0.1 z (z + 15) 0) (d1 : w0.1 (z + 1) = some (cQ 8 8 fun _ => none)) (d3 : w0.1 (z + 3) = some (cQ 10 4 fun _ => none)) (d2 : w0.2 = (z + 18, S)) : Hr (l_X10_init_67 z (l_X10_init_94 z (rt ()) FU 0) FU 0) w0 (fun _ t => (∀ q, q < z + 18 → q ≠ z + 1 → q ≠ z + 3 → t.1 q = w0.1 q) ∧ SA t.1 z ∧ PA t.1 z ∧ (∀ s, s < 8 → S1 t.1 (z + 18 + 4 * s) 0 (fun _ => 0) (fun _ => 0) (fun _ => 0)) ∧ (∀ p, p < 4 → P1 t.1 (z + 50 + 3 * p) none 0 1 0 0 (fun _ => 0) (fun _ => 0)) ∧ t.2 = (z + 62, S + 708)) := by
  refine hr_loop (σ := Int32) (fun n s => l_X10_init_67 z _ n s) (fun rec s => b_X10_init_67 z rec _ s) (fun n s => rfl) 8 (fun j s w => s = nI j ∧ w.2 = (z + 18 + 4 * j, S + 76 * j) ∧ (∀ q, q < z + 18 → q ≠ z + 1 → w.1 q = w0.1 q) ∧ (∃ g : Nat → Option Nat, w.1 (z + 1) = some (cQ 8 8 g) ∧ ∀ s, s < j → g s = some (z + 18 + 4 * s)) ∧ ∀ s, s < j → S1 w.1 (z + 18 + 4 * s) 0 (fun _ => 0) (fun _ => 0) (fun _ => 0)) ?_ ?_ 8 FU 0 0 _ (by decide) rfl ⟨rfl, d2, fun _ _ _ => rfl, ⟨_, d1, fun s hs => by omega⟩, fun s hs => by omega⟩
  · intro j s w rec hj hI hrec
    obtain ⟨rfl, w1, w2, ⟨g, w3, w4⟩, w5⟩ := hI
    obtain ⟨wh, wp, wl⟩ := w
    have e1 : wp = z + 18 + 4 * j := congrArg Prod.fst w1
    have e2 : wl = S + 76 * j := congrArg Prod.snd w1
    subst e1
    subst e2
    dsimp only at w2 w3 w5
    unfold b_X10_init_67
    refine hr_f (nI_ge hj (by decide)) ?_
    refine hb_gRs ((w2 z (by omega) (by omega)).trans d0) (by decide) rfl ?_
    refine hb_mk ?_
    dsimp only
    refine hb_c i_sens (fun _ t ht => ?_)
    obtain ⟨t1, t2, t3⟩ := ht
    refine hb_dr t1.1 (by decide) ?_
    refine hb_sR ((t3 _ (by omega)).trans w3) (nI_in hj (by decide)) ?_
    rw [nI_clamp (by omega), nI_1]
    refine hrec _ _ ⟨rfl, ?_, fun q a b => up_ne b ((t3 q (by omega)).trans (w2 q a b)), ⟨_, up_eq rfl, fun s hs => ?_⟩, fun s hs => ?_⟩
    · dsimp only
      rw [t2, Prod.mk.injEq]
      exact ⟨by omega, by omega⟩
    · by_cases e : s = j
      · rw [e]
        exact va_up_self _ _ _
      · rw [va_up_ne _ _ e]
        exact w4 s (by omega)
    · by_cases e : s = j
      · rw [e]
        exact t1.keep (fun q a b => up_ne (by omega) rfl)
      · exact (w5 s (by omega)).keep (fun q a b => up_ne (by omega) (t3 q (by omega)))
  · intro s w rec hI
    obtain ⟨rfl, w1, w2, ⟨g, w3, w4⟩, w5⟩ := hI
    unfold b_X10_init_67
    refine hr_t (nI_le (Nat.le_refl _) (by decide)) ?_
    refine hr_loop (σ := Int32) (fun n s => l_X10_init_94 z _ n s) (fun rec s => b_X10_init_94 z rec _ s) (fun n s => rfl) 4 (fun j s u => s = nI j ∧ u.2 = (z + 50 + 3 * j, S + 608 + 25 * j) ∧ (∀ q, q < z + 50 → q ≠ z + 3 → u.1 q = w.1 q) ∧ (∃ g : Nat → Option Nat, u.1 (z + 3) = some (cQ 10 4 g) ∧ ∀ p, p < j → g p = some (z + 50 + 3 * p)) ∧ ∀ p, p < j → P1 u.1 (z + 50 + 3 * p) none 0 1 0 0 (fun _ => 0) (fun _ => 0)) ?_ ?_ 4 FU 0 0 _ (by decide) rfl ⟨rfl, ?_, fun _ _ _ => rfl, ⟨_, (w2 _ (by omega) (by omega)).trans d3, fun s hs => by omega⟩, fun s hs => by omega⟩
    · intro j s u rec hj hI hrec
      obtain ⟨rfl, u1, u2, ⟨g2, u3, u4⟩, u5⟩ := hI
      obtain ⟨uh, up, ul⟩ := u
      have e1 : up = z + 50 + 3 * j := congrArg Prod.fst u1
      have e2 : ul = S + 608 + 25 * j := congrArg Prod.snd u1
      subst e1
      subst e2
      dsimp only at u2 u3 u5
      unfold b_X10_init_94
      refine hr_f (nI_ge hj (by decide)) ?_
      refine hb_gRs ((u2 z (by omega) (by omega)).trans ((w2 z (by omega) (by omega)).trans d0)) (by decide) rfl ?_
      refine hb_mk ?_
      dsimp only
      refine hb_c i_prob (fun _ t ht => ?_)
      obtain ⟨t1, t2, t3⟩ := ht
      refine hb_dr t1.1 (by decide) ?_
      refine hb_sR ((t3 _ (by omega)).trans u3) (nI_in hj (by decide)) ?_
      rw [nI_clamp (by omega), nI_1]
      refine hrec _ _ ⟨rfl, ?_, fun q a b => up_ne b ((t3 q (by omega)).trans (u2 q a b)), ⟨_, up_eq rfl, fun s hs => ?_⟩, fun s hs => ?_⟩
      · dsimp only
        rw [t2, Prod.mk.injEq]
        exact ⟨by omega, by omega⟩
      · by_cases e : s = j
        · rw [e]
          exact va_up_self _ _ _
        · rw [va_up_ne _ _ e]
          exact u4 s (by omega)
      · by_cases e : s = j
        · rw [e]
          exact t1.keep (fun q a b => up_ne (by omega) rfl)
        · exact (u5 s (by omega)).keep (fun q a b => up_ne (by omega) (t3 q (by omega)))
    · intro s u rec hI
      obtain ⟨rfl, u1, u2, ⟨g2, u3, u4⟩, u5⟩ := hI
      unfold b_X10_init_94
      refine hr_t (nI_le (Nat.le_refl _) (by decide)) (hr_rt ⟨fun q a b c => (u2 q (by omega) c).trans (w2 q a b), ⟨g, (u2 _ (by omega) (by omega)).trans w3, w4⟩, ⟨g2, u3, u4⟩, fun s hs => (w5 s hs).keep (fun q a b => u2 q (by omega) (by omega)), u5, ?_⟩)
      rw [u1, Prod.mk.injEq]
      exact ⟨by omega, by omega⟩
    · rw [w1, Prod.mk.injEq]
      exact ⟨by omega, by omega⟩
/-- a new object under test -/
def OZ (t : WS) (z : Nat) : Prop := FO t.1 z (z + 15) 0 ∧ SA t.1 z ∧ t.1 (z + 2) = some (cQ 9 60 fun _ => none) ∧ PA t.1 z ∧ t.1 (z + 4) = some (cQ 11 4 fun _ => none) ∧ (∃ sz : Nat → Int32, (∀ b, b < 8 → sz b = -1) ∧ B1 t.1 (z + 5) sz (fun _ => 0, fun _ => 0, fun _ => 0, fun _ => 0, fun _ => 0, fun _ => 0, fun _ => 0, fun _ => 0)) ∧ K1 t.1 (z + 15) 0 (fun _ => 0) (fun _ => 0) ∧ (∀ s, s < 8 → S1 t.1 (z + 18 + 4 * s) 0 (fun _ => 0) (fun _ => 0) (fun _ => 0)) ∧ ∀ p, p < 4 → P1 t.1 (z + 50 + 3 * p) none 0 1 0 0 (fun _ => 0) (fun _ => 0)
theorem i_obj {h : Nat → Option PE} {z sl : Nat} : Hr (F_X10_init z) (m_up h z (ob 9 [.null, .null, .null, .null, .null, .null, .int 0]), z + 1, sl) (fun _ t => OZ t z ∧ t.2 = (z + 62, sl + 1380)) := by
  unfold F_X10_init
  refine ar_nA (N := 8) ar_0 (by decide) (by decide) (by simp) (fun t1 h1 => ?_)
  refine ar_nA (N := 60) h1 (by decide) (by decide) (by simp) (fun t2 h2 => ?_)
  refine ar_nA (N := 4) h2 (by decide) (by decide) (by simp) (fun t3 h3 => ?_)
  refine ar_nA (N := 4) h3 (by decide) (by decide) (by simp) (fun t4 h4 => ?_)
  obtain ⟨g1, g2, g3, -⟩ := h4
  obtain ⟨w4, p4, s4⟩ := t4
  have e1 : p4 = z + 5 := congrArg Prod.fst g3
  have e2 : s4 = sl + 8 + 60 + 4 + 4 := congrArg Prod.snd g3
  subst e1
  subst e2
  have a0 : w4 z = some (ob 9 [.ref (z + 1), .ref (z + 2), .ref (z + 3), .ref (z + 4), .null, .null, .int 0]) := g1
  have a1 : w4 (z + 1) = some (cQ 8 8 fun _ => none) := g2 0 _ rfl
  have a2 : w4 (z + 2) = some (cQ 9 60 fun _ => none) := g2 1 _ rfl
  have a3 : w4 (z + 3) = some (cQ 10 4 fun _ => none) := g2 2 _ rfl
  have a4 : w4 (z + 4) = some (cQ 11 4 fun _ => none) := g2 3 _ rfl
  clear g1 g2 g3
  refine hb_mk ?_
  dsimp only
  refine hb_c i_bank (fun _ t5 h5 => ?_)
  obtain ⟨⟨sz, b1, b2⟩, b3, b4⟩ := h5
  obtain ⟨w5, p5, s5⟩ := t5
  have e1 : p5 = z + 15 := congrArg Prod.fst b3
  have e2 : s5 = sl + 8 + 60 + 4 + 4 + 9 + 520 := congrArg Prod.snd b3
  subst e1
  subst e2
  clear b3
  dsimp only at b2 b4
  refine hb_pV ((b4 z (by omega)).trans a0) (by decide) (by simp) ?_
  refine hb_mk ?_
  dsimp only
  refine hb_c i_knot (fun _ t6 h6 => ?_)
  obtain ⟨c1, c2, c3⟩ := h6
  refine hb_pV ((c3 z (by omega)).trans (up_eq rfl)) (by decide) (by simp) ?_
  refine hb_pV (up_eq rfl) (by decide) (by simp) ?_
  have hc : ∀ q, q < z + 15 → q ≠ z → t6.1 q = w5 q := fun q a b => (c3 q a).trans (up_ne b rfl)
  refine hr_mono (i_loops (S := sl + 8 + 60 + 4 + 4 + 9 + 520 + 3 + 64) (up_eq rfl) (up_ne (by omega) (up_ne (by omega) ((hc _ (by omega) (by omega)).trans ((b4 _ (by omega)).trans a1)))) (up_ne (by omega) (up_ne (by omega) ((hc _ (by omega) (by omega)).trans ((b4 _ (by omega)).trans a3)))) c2) (fun _ t ht => ?_)
  obtain ⟨v1, v2, v3, v4, v5, v6⟩ := ht
  have hq : ∀ q, q < z + 18 → q ≠ z → q ≠ z + 1 → q ≠ z + 3 → t.1 q = t6.1 q := fun q a b c d => (v1 q a c d).trans (up_ne b (up_ne b rfl))
  refine ⟨⟨(v1 z (by omega) (by omega) (by omega)).trans (up_eq rfl), v2, ?_, v3, ?_, ⟨sz, b1, ?_⟩, ?_, v4, v5⟩, ?_⟩
  · exact (hq _ (by omega) (by omega) (by omega) (by omega)).trans ((hc _ (by omega) (by omega)).trans ((b4 _ (by omega)).trans a2))
  · exact (hq _ (by omega) (by omega) (by omega) (by omega)).trans ((hc _ (by omega) (by omega)).trans ((b4 _ (by omega)).trans a4))
  · exact b2.keep (fun q a b => (hq _ (by omega) (by omega) (by omega) (by omega)).trans (hc _ (by omega) (by omega)))
  · exact c1.keep (fun q a b => hq _ (by omega) (by omega) (by omega) (by omega))
  · rw [v6, Prod.mk.injEq]
    exact ⟨by omega, by omega⟩
