/-! ===== the row of a curve ===== -/
def ZA (Z : Nat → Nat) (n : Nat) : Prop := ∀ q, ¬ Z q = 0 → q < n
/-- what making rows and forms may change: nothing of the zones 1 to 4, nothing from zone m on; the room by what is not made yet -/
def GW (nc m : Nat) (Z kp : Nat → Nat) (ws : WS) (Z2 kp2 : Nat → Nat) (t : WS) : Prop := (∀ q, ¬ Z q = 0 → Z2 q = Z q) ∧ (∀ q, ¬ Z q = 0 → Z q ≤ 4 ∨ m ≤ Z q → t.1 q = ws.1 q) ∧ t.2.1 + Sm kp2 nc ≤ ws.2.1 + Sm kp nc ∧ t.2.2 + 4096 * Sm kp2 nc ≤ ws.2.2 + 4096 * Sm kp nc
theorem GW.rf {nc m : Nat} {Z kp : Nat → Nat} {ws : WS} : GW nc m Z kp ws Z kp ws := ⟨fun _ _ => rfl, fun _ _ _ => rfl, Nat.le_refl _, Nat.le_refl _⟩
theorem GW.tr {nc m m1 m2 : Nat} {Z kp Z1 kp1 Z2 kp2 : Nat → Nat} {ws t u : WS} (h1 : GW nc m1 Z kp ws Z1 kp1 t) (h2 : GW nc m2 Z1 kp1 t Z2 kp2 u) (hm1 : m1 ≤ m) (hm2 : m2 ≤ m) : GW nc m Z kp ws Z2 kp2 u := by
  obtain ⟨a1, a2, a3, a4⟩ := h1
  obtain ⟨b1, b2, b3, b4⟩ := h2
  refine ⟨fun q hq => ?_, fun q hq hz => ?_, by omega, by omega⟩
  · have e := a1 q hq
    rw [b1 q (by rw [e]; exact hq), e]
  · have e := a1 q hq
    rw [b2 q (by rw [e]; exact hq) (by rw [e]; omega), a2 q hq (by omega)]
theorem rf_inj {a b : Option Nat} (h : va_rf a = va_rf b) : a = b := by
  cases a <;> cases b <;> simp [va_rf] at h ⊢
  exact h
theorem u1_z {Z : Nat → Nat} {a v q : Nat} (hz : Z a = 0) (hq : ¬ Z q = 0) : u1 Z a v q = Z q := u1_n (fun e => hq (by rw [e]; exact hz))
section FILL
variable {Z ca cc : Nat → Nat} {ce : Nat → List Value} {so : Nat → Int32} {wk : Nat → Nat} {vl : Nat → Nat → Int32} {kp : Nat → Nat} {nc : Nat}
/-- what filled comes to, of curve i -/
def FL (Z ca cc : Nat → Nat) (ce : Nat → List Value) (so : Nat → Int32) (wk : Nat → Nat) (vl : Nat → Nat → Int32) (kp : Nat → Nat) (nc i : Nat) (fm : Option Nat) (ws : WS) (r : Option Nat) (t : WS) : Prop := ∃ (Z2 kp2 : Nat → Nat) (a : Nat) (f : Nat → Int32), r = some a ∧ (∀ l, l < nc → CU t.1 Z2 ca cc ce so wk vl kp2 l) ∧ ZA Z2 t.2.1 ∧ GW nc (7 + 2 * i) Z kp ws Z2 kp2 t ∧ t.1 (ca i) = some (ob (cc i) (.int (so i) :: .int (nI (wk i)) :: .ref a :: va_rf fm :: ce i)) ∧ Z2 a = 4 ∧ t.1 a = some (cI 4096 f) ∧ ∀ x, x < 4096 → f x = vl i x
theorem c_makeParts {ws : WS} {i d : Nat} {e1 e2 e3 e4 : Value} (hi : i < nc) (hcv : ∀ l, l < nc → CU ws.1 Z ca cc ce so wk vl kp l) (hza : ZA Z ws.2.1) (hc : ws.1 (ca i) = some (ob (cc i) (e1 :: e2 :: e3 :: e4 :: ce i)))
    (ih : ∀ j, j < i → ∀ (ws : WS) (Z kp : Nat → Nat) (rr fm : Option Nat), (∀ l, l < nc → CU ws.1 Z ca cc ce so wk vl kp l) → ZA Z ws.2.1 → ws.1 (ca j) = some (ob (cc j) (.int (so j) :: .int (nI (wk j)) :: va_rf rr :: va_rf fm :: ce j)) → Hr (F_X1_filled d (ca j)) ws (FL Z ca cc ce so wk vl kp nc j fm ws)) :
    Hr (vd (cc i) (F_X4_makeParts (ca i)) (F_X5_makeParts (ca i)) (F_X7_makeParts (F_X1_filled d) (ca i))) ws (fun _ t => ∃ Z1 kp1 : Nat → Nat, (∀ l, l < nc → CU t.1 Z1 ca cc ce so wk vl kp1 l) ∧ ZA Z1 t.2.1 ∧ GW nc (5 + 2 * i) Z kp ws Z1 kp1 t) := by
  obtain ⟨-, -, -, hzi, hme, -, -⟩ := hcv i hi
  have hc0 := hc
  rcases hme with ⟨m1, -⟩ | ⟨m1, -⟩ | ⟨m1, how, f, s, t, j, o, m2, m3, m4, -⟩
  · rw [m1]
    exact hr_rt ⟨Z, kp, hcv, hza, GW.rf⟩
  · rw [m1]
    exact hr_rt ⟨Z, kp, hcv, hza, GW.rf⟩
  · rw [m1, m2] at hc
    rw [m1]
    change Hr (F_X7_makeParts (F_X1_filled d) (ca i)) ws _
    unfold F_X7_makeParts
    (repeat (first | (with_reducible refine hb_rt ?_) | ((with_reducible apply hb_gRs); (focus (first | assumption | exact up_eq rfl | exact up_ne (by omega) (by assumption) | exact up_ne (by omega) (up_eq rfl) | exact up_ne (by omega) (up_ne (by omega) (by assumption)) | exact up_ne (by omega) (up_ne (by omega) (up_eq rfl)) | exact up_ne (by omega) (up_ne (by omega) (up_ne (by omega) (by assumption))) | exact up_ne (by omega) (up_ne (by omega) (up_ne (by omega) (up_eq rfl))) | exact up_ne (by omega) (up_ne (by omega) (up_ne (by omega) (up_ne (by omega) (by assumption)))) | exact up_ne (by omega) (up_ne (by omega) (up_ne (by omega) (up_ne (by omega) (up_eq rfl)))))); (focus decide); (focus rfl)) | ((with_reducible apply hb_gI); (focus (first | assumption | exact up_eq rfl | exact up_ne (by omega) (by assumption) | exact up_ne (by omega) (up_eq rfl) | exact up_ne (by omega) (up_ne (by omega) (by assumption)) | exact up_ne (by omega) (up_ne (by omega) (up_eq rfl)) | exact up_ne (by omega) (up_ne (by omega) (up_ne (by omega) (by assumption))) | exact up_ne (by omega) (up_ne (by omega) (up_ne (by omega) (up_eq rfl))) | exact up_ne (by omega) (up_ne (by omega) (up_ne (by omega) (up_ne (by omega) (by assumption)))) | exact up_ne (by omega) (up_ne (by omega) (up_ne (by omega) (up_ne (by omega) (up_eq rfl)))))); (focus decide); (focus rfl)) | ((with_reducible apply hb_gRn); (focus (first | assumption | exact up_eq rfl | exact up_ne (by omega) (by assumption) | exact up_ne (by omega) (up_eq rfl) | exact up_ne (by omega) (up_ne (by omega) (by assumption)) | exact up_ne (by omega) (up_ne (by omega) (up_eq rfl)) | exact up_ne (by omega) (up_ne (by omega) (up_ne (by omega) (by assumption))) | exact up_ne (by omega) (up_ne (by omega) (up_ne (by omega) (up_eq rfl))) | exact up_ne (by omega) (up_ne (by omega) (up_ne (by omega) (up_ne (by omega) (by assumption)))) | exact up_ne (by omega) (up_ne (by omega) (up_ne (by omega) (up_ne (by omega) (up_eq rfl)))))); (focus decide); (focus rfl)) | ((with_reducible apply hb_gL); (focus (first | assumption | exact up_eq rfl | exact up_ne (by omega) (by assumption) | exact up_ne (by omega) (up_eq rfl) | exact up_ne (by omega) (up_ne (by omega) (by assumption)) | exact up_ne (by omega) (up_ne (by omega) (up_eq rfl)) | exact up_ne (by omega) (up_ne (by omega) (up_ne (by omega) (by assumption))) | exact up_ne (by omega) (up_ne (by omega) (up_ne (by omega) (up_eq rfl))) | exact up_ne (by omega) (up_ne (by omega) (up_ne (by omega) (up_ne (by omega) (by assumption)))) | exact up_ne (by omega) (up_ne (by omega) (up_ne (by omega) (up_ne (by omega) (up_eq rfl)))))); (focus decide); (focus rfl)) | ((with_reducible apply hb_gD); (focus (first | assumption | exact up_eq rfl | exact up_ne (by omega) (by assumption) | exact up_ne (by omega) (up_eq rfl) | exact up_ne (by omega) (up_ne (by omega) (by assumption)) | exact up_ne (by omega) (up_ne (by omega) (up_eq rfl)) | exact up_ne (by omega) (up_ne (by omega) (up_ne (by omega) (by assumption))) | exact up_ne (by omega) (up_ne (by omega) (up_ne (by omega) (up_eq rfl))) | exact up_ne (by omega) (up_ne (by omega) (up_ne (by omega) (up_ne (by omega) (by assumption)))) | exact up_ne (by omega) (up_ne (by omega) (up_ne (by omega) (up_ne (by omega) (up_eq rfl)))))); (focus decide); (focus rfl)) | ((with_reducible apply hb_gR); (focus (first | assumption | exact up_eq rfl | exact up_ne (by omega) (by assumption) | exact up_ne (by omega) (up_eq rfl) | exact up_ne (by omega) (up_ne (by omega) (by assumption)) | exact up_ne (by omega) (up_ne (by omega) (up_eq rfl)) | exact up_ne (by omega) (up_ne (by omega) (up_ne (by omega) (by assumption))) | exact up_ne (by omega) (up_ne (by omega) (up_ne (by omega) (up_eq rfl))) | exact up_ne (by omega) (up_ne (by omega) (up_ne (by omega) (up_ne (by omega) (by assumption)))) | exact up_ne (by omega) (up_ne (by omega) (up_ne (by omega) (up_ne (by omega) (up_eq rfl)))))); (focus decide); (focus rfl)) | ((with_reducible apply hb_dr); (focus (first | assumption | exact up_eq rfl | exact up_ne (by omega) (by assumption) | exact up_ne (by omega) (up_eq rfl) | exact up_ne (by omega) (up_ne (by omega) (by assumption)) | exact up_ne (by omega) (up_ne (by omega) (up_eq rfl)) | exact up_ne (by omega) (up_ne (by omega) (up_ne (by omega) (by assumption))) | exact up_ne (by omega) (up_ne (by omega) (up_ne (by omega) (up_eq rfl))) | exact up_ne (by omega) (up_ne (by omega) (up_ne (by omega) (up_ne (by omega) (by assumption)))) | exact up_ne (by omega) (up_ne (by omega) (up_ne (by omega) (up_ne (by omega) (up_eq rfl)))))); (focus decide)) | ((with_reducible apply hb_aI); (focus (first | assumption | exact up_eq rfl | exact up_ne (by omega) (by assumption) | exact up_ne (by omega) (up_eq rfl) | exact up_ne (by omega) (up_ne (by omega) (by assumption)) | exact up_ne (by omega) (up_ne (by omega) (up_eq rfl)) | exact up_ne (by omega) (up_ne (by omega) (up_ne (by omega) (by assumption))) | exact up_ne (by omega) (up_ne (by omega) (up_ne (by omega) (up_eq rfl))) | exact up_ne (by omega) (up_ne (by omega) (up_ne (by omega) (up_ne (by omega) (by assumption)))) | exact up_ne (by omega) (up_ne (by omega) (up_ne (by omega) (up_ne (by omega) (up_eq rfl)))))); (focus (first | assumption | exact nI_in (by omega) (by decide) | decide))) | ((with_reducible apply hb_sI); (focus (first | assumption | exact up_eq rfl | exact up_ne (by omega) (by assumption) | exact up_ne (by omega) (up_eq rfl) | exact up_ne (by omega) (up_ne (by omega) (by assumption)) | exact up_ne (by omega) (up_ne (by omega) (up_eq rfl)) | exact up_ne (by omega) (up_ne (by omega) (up_ne (by omega) (by assumption))) | exact up_ne (by omega) (up_ne (by omega) (up_ne (by omega) (up_eq rfl))) | exact up_ne (by omega) (up_ne (by omega) (up_ne (by omega) (up_ne (by omega) (by assumption)))) | exact up_ne (by omega) (up_ne (by omega) (up_ne (by omega) (up_ne (by omega) (up_eq rfl)))))); (focus (first | assumption | exact nI_in (by omega) (by decide) | decide))) | ((with_reducible apply hb_aR); (focus (first | assumption | exact up_eq rfl | exact up_ne (by omega) (by assumption) | exact up_ne (by omega) (up_eq rfl) | exact up_ne (by omega) (up_ne (by omega) (by assumption)) | exact up_ne (by omega) (up_ne (by omega) (up_eq rfl)) | exact up_ne (by omega) (up_ne (by omega) (up_ne (by omega) (by assumption))) | exact up_ne (by omega) (up_ne (by omega) (up_ne (by omega) (up_eq rfl))) | exact up_ne (by omega) (up_ne (by omega) (up_ne (by omega) (up_ne (by omega) (by assumption)))) | exact up_ne (by omega) (up_ne (by omega) (up_ne (by omega) (up_ne (by omega) (up_eq rfl)))))); (focus (first | assumption | exact nI_in (by omega) (by decide) | decide))) | ((with_reducible apply hb_aL); (focus (first | assumption | exact up_eq rfl | exact up_ne (by omega) (by assumption) | exact up_ne (by omega) (up_eq rfl) | exact up_ne (by omega) (up_ne (by omega) (by assumption)) | exact up_ne (by omega) (up_ne (by omega) (up_eq rfl)) | exact up_ne (by omega) (up_ne (by omega) (up_ne (by omega) (by assumption))) | exact up_ne (by omega) (up_ne (by omega) (up_ne (by omega) (up_eq rfl))) | exact up_ne (by omega) (up_ne (by omega) (up_ne (by omega) (up_ne (by omega) (by assumption)))) | exact up_ne (by omega) (up_ne (by omega) (up_ne (by omega) (up_ne (by omega) (up_eq rfl)))))); (focus (first | assumption | exact nI_in (by omega) (by decide) | decide))) | ((with_reducible apply hb_sL); (focus (first | assumption | exact up_eq rfl | exact up_ne (by omega) (by assumption) | exact up_ne (by omega) (up_eq rfl) | exact up_ne (by omega) (up_ne (by omega) (by assumption)) | exact up_ne (by omega) (up_ne (by omega) (up_eq rfl)) | exact up_ne (by omega) (up_ne (by omega) (up_ne (by omega) (by assumption))) | exact up_ne (by omega) (up_ne (by omega) (up_ne (by omega) (up_eq rfl))) | exact up_ne (by omega) (up_ne (by omega) (up_ne (by omega) (up_ne (by omega) (by assumption)))) | exact up_ne (by omega) (up_ne (by omega) (up_ne (by omega) (up_ne (by omega) (up_eq rfl)))))); (focus (first | assumption | exact nI_in (by omega) (by decide) | decide))) | ((with_reducible apply hb_pV); (focus (first | assumption | exact up_eq rfl | exact up_ne (by omega) (by assumption) | exact up_ne (by omega) (up_eq rfl) | exact up_ne (by omega) (up_ne (by omega) (by assumption)) | exact up_ne (by omega) (up_ne (by omega) (up_eq rfl)) | exact up_ne (by omega) (up_ne (by omega) (up_ne (by omega) (by assumption))) | exact up_ne (by omega) (up_ne (by omega) (up_ne (by omega) (up_eq rfl))) | exact up_ne (by omega) (up_ne (by omega) (up_ne (by omega) (up_ne (by omega) (by assumption)))) | exact up_ne (by omega) (up_ne (by omega) (up_ne (by omega) (up_ne (by omega) (up_eq rfl)))))); (focus decide); (focus simp))))
    obtain ⟨cj, fj, cj1, cj2⟩ := (hcv j (by omega)).isO
    refine hb_dr cj2 cj1 ?_
    obtain ⟨rj, fj, jc, -⟩ := hcv j (by omega)
    refine hb_c (ih j m3 ws Z kp rj fj hcv hza jc) (fun r t h => ?_)
    obtain ⟨Z1, kp1, a, fa, -, k1, k2, k3, -⟩ := h
    have hct : t.1 (ca i) = some (ob 6 (e1 :: e2 :: e3 :: e4 :: [.int how, .ref (ca j), va_rf o, .int f, .int s, .int _])) := (k3.2.1 _ (by omega) (by omega)).trans hc
    refine hb_gR hct (by decide) rfl ?_
    rcases m4 with e | ⟨l, hl, e⟩
    · subst e
      refine hr_t rfl (hr_rt ⟨Z1, kp1, k1, k2, ?_⟩)
      exact GW.tr k3 GW.rf (by omega) (Nat.le_refl _)
    · subst e
      refine hr_f (by simp) ?_
      refine hb_gR hct (by decide) rfl ?_
      obtain ⟨cl, fl2, cl1, cl2⟩ := (k1 l (by omega)).isO
      refine hb_dr cl2 cl1 ?_
      obtain ⟨rl, fl3, lc, -⟩ := k1 l (by omega)
      refine hb_c (ih l hl t Z1 kp1 rl fl3 k1 k2 lc) (fun r t2 h => ?_)
      obtain ⟨Z2, kp2, a2, fa2, -, q1, q2, q3, -⟩ := h
      exact hr_rt ⟨Z2, kp2, q1, q2, GW.tr k3 q3 (by omega) (by omega)⟩
theorem c_filled (hnc : nc ≤ 60) : ∀ i, i < nc → ∀ d, i < d → ∀ (ws : WS) (Z kp : Nat → Nat) (rr fm : Option Nat), (∀ l, l < nc → CU ws.1 Z ca cc ce so wk vl kp l) → ZA Z ws.2.1 → ws.1 (ca i) = some (ob (cc i) (.int (so i) :: .int (nI (wk i)) :: va_rf rr :: va_rf fm :: ce i)) → Hr (F_X1_filled d (ca i)) ws (FL Z ca cc ce so wk vl kp nc i fm ws) := by
  intro i
  induction i using Nat.strongRecOn with
  | ind i ih =>
    intro hi d hd ws Z kp rr fm hcv hza hc
    obtain ⟨d, rfl⟩ : ∃ e, d = e + 1 := ⟨d - 1, by omega⟩
    obtain ⟨r0, f0, c1, c2, c3, c4, c5⟩ := hcv i hi
    have hmem := c3.cls
    have er : r0 = rr ∧ f0 = fm := by
      rw [hc] at c1
      simp only [Option.some.injEq, Sum.inr.injEq, Prod.mk.injEq, List.cons.injEq, true_and, and_true] at c1
      exact ⟨(rf_inj c1.1).symm, (rf_inj c1.2).symm⟩
    obtain ⟨rfl, rfl⟩ := er
    unfold F_X1_filled
    refine hb_gR hc hmem rfl ?_
    rcases c4 with e | ⟨a, f, e, z4, ha, hf⟩
    · subst e
      refine hr_t rfl ?_
      refine hb_dr hc hmem ?_
      refine hb_c (c_makeParts hi hcv hza hc (fun j hj w Zj kj rj fj a1 a2 a3 => ih j hj (by omega) d (by omega) w Zj kj rj fj a1 a2 a3)) (fun _ t1 h => ?_)
      obtain ⟨Z1, kp1, k1, k2, k3⟩ := h
      have hc1 : t1.1 (ca i) = _ := (k3.2.1 _ (by omega) (by omega)).trans hc
      have hzi : Z1 (ca i) = 5 + 2 * i := (k3.1 _ (by omega)).trans c2
      have hlt := k2 (ca i) (by omega)
      have hz0 : Z1 t1.2.1 = 0 := by
        by_cases e : Z1 t1.2.1 = 0
        · exact e
        · exact absurd (k2 _ e) (by omega)
      have hn : ∀ q, ¬ Z1 q = 0 → q ≠ t1.2.1 := fun q hq e => hq (by rw [e]; exact hz0)
      obtain ⟨r2, f2, d1, d2, d3, d4, d5⟩ := k1 i hi
      have er : r2 = none ∧ f2 = f0 := by
        rw [hc1] at d1
        simp only [Option.some.injEq, Sum.inr.injEq, Prod.mk.injEq, List.cons.injEq, true_and, and_true] at d1
        exact ⟨(rf_inj d1.1).symm, (rf_inj d1.2).symm⟩
      obtain ⟨rfl, rfl⟩ := er
      have hkp : f2 = none ∧ 4 ≤ kp1 i := by
        rcases d5 with ⟨g1, g2⟩ | ⟨fa, ra, tc, tr, lo, hi, tn, g1, g2, g3, -⟩
        · exact ⟨g1, by unfold nd at g2; omega⟩
        · cases g3
      refine hb_nA (by decide) ?_
      have e4096 : (4096 : Int32).toNatClampNeg = 4096 := by decide
      rw [e4096]
      refine hr_loop (σ := Int32) (fun n s => l_X1_filled_19 (ca i) t1.2.1 _ n s) (fun rec s => b_X1_filled_19 (ca i) t1.2.1 rec _ s) (fun n s => rfl) 4096 (fun j s w => s = nI j ∧ w.2 = (t1.2.1 + 1, t1.2.2 + 4096) ∧ (∀ q, q ≠ t1.2.1 → w.1 q = t1.1 q) ∧ ∃ f : Nat → Int32, w.1 t1.2.1 = some (cI 4096 f) ∧ ∀ x, x < j → f x = vl i x) ?_ ?_ 4096 FU 0 _ _ (by decide) rfl ⟨rfl, rfl, fun q hq => up_ne hq rfl, fun _ => 0, up_eq rfl, fun x hx => by omega⟩
      · intro j s w rec hj hI hrec
        obtain ⟨rfl, w1, w2, f, w3, w4⟩ := hI
        unfold b_X1_filled_19
        refine hr_f (nI_ge hj (by decide)) ?_
        have hcw : w.1 (ca i) = _ := (w2 _ (by omega)).trans hc1
        refine hb_dr hcw hmem ?_
        have hkeep : ∀ l, l < nc → CU w.1 Z1 ca cc ce so wk vl kp1 l := fun l hl => (k1 l hl).keep (fun q hq => ⟨rfl, w2 q (hn q (by omega))⟩) (Nat.le_refl _)
        refine hb_c (c_work hj (d3.keep (fun q hq => ⟨hq, w2 q (hn q (by omega))⟩)) hcw (fun l hl y hy => c_at hkeep l (by omega) 64 (by omega) y hy) (fun l hl => (hkeep l (by omega)).isO)) (fun r t h => ?_)
        obtain ⟨rfl, rfl⟩ := h
        refine hb_sI w3 (nI_in hj (by decide)) ?_
        rw [nI_clamp (by omega), nI_1]
        refine hrec _ _ ⟨rfl, w1, fun q hq => up_ne hq (w2 q hq), _, up_eq rfl, fun x hx => ?_⟩
        by_cases e : x = j
        · subst e
          exact pk_us
        · rw [pk_un e]
          exact w4 x (by omega)
      · intro s w rec hI
        obtain ⟨rfl, w1, w2, f, w3, w4⟩ := hI
        unfold b_X1_filled_19
        refine hr_t (nI_le (Nat.le_refl _) (by decide)) ?_
        have hcw : w.1 (ca i) = _ := (w2 _ (by omega)).trans hc1
        refine hb_pV hcw hmem (by simp) ?_
        refine hb_gR (x := some t1.2.1) (up_eq rfl) hmem rfl ?_
        have hsum := Sm_u1 (f := kp1) (i := i) (v := kp1 i - 1) hi
        refine hr_rt ⟨u1 Z1 t1.2.1 4, u1 kp1 i (kp1 i - 1), t1.2.1, f, rfl, fun l hl => ?_, fun q hq => ?_, ?_, up_eq rfl, u1_s, up_ne (by omega) w3, w4⟩
        · by_cases e : l = i
          · subst e
            refine ⟨some t1.2.1, f2, up_eq rfl, (u1_z hz0 (by omega)).trans hzi, d3.keep (fun q hq => ⟨(u1_z hz0 (by omega)).trans hq, up_ne (fun e => by rw [e] at hq; omega) (w2 q (hn q (by omega)))⟩), Or.inr ⟨t1.2.1, f, rfl, u1_s, up_ne (by omega) w3, w4⟩, Or.inl ⟨hkp.1, ?_⟩⟩
            rw [u1_s]
            have := hkp.2
            unfold nd
            simp only
            omega
          · refine (k1 l hl).keep (fun q hq => ⟨u1_z hz0 (by omega), up_ne (fun e2 => ?_) (w2 q (hn q (by omega)))⟩) ?_
            · rw [e2] at hq
              omega
            · rw [u1_n e]
              exact Nat.le_refl _
        · have e1 : w.2.1 = t1.2.1 + 1 := by rw [w1]
          show q < w.2.1
          by_cases e : q = t1.2.1
          · omega
          · rw [u1_n e] at hq
            have := k2 q hq
            omega
        · refine GW.tr k3 (Z1 := Z1) (kp1 := kp1) (m2 := 7 + 2 * i) ⟨fun q hq => u1_z hz0 hq, fun q hq hz => up_ne (fun e2 => ?_) (w2 q (hn q hq)), ?_, ?_⟩ (by omega) (Nat.le_refl _)
          · rw [e2] at hz
            omega
          · have e1 : w.2.1 = t1.2.1 + 1 := by rw [w1]
            have := hkp.2
            show w.2.1 + _ ≤ _
            omega
          · have e1 : w.2.2 = t1.2.2 + 4096 := by rw [w1]
            have := hkp.2
            show w.2.2 + _ ≤ _
            omega
    · subst e
      refine hr_f (by simp) ?_
      refine hb_gR hc hmem rfl ?_
      exact hr_rt ⟨Z, kp, a, f, rfl, hcv, hza, GW.rf, hc, z4, ha, hf⟩
end FILL
