/-! ===== formed, turnNumbered ===== -/
section ASK
variable {Z ca cc : Nat → Nat} {ce : Nat → List Value} {so : Nat → Int32} {wk : Nat → Nat} {vl : Nat → Nat → Int32} {kp : Nat → Nat} {nc : Nat}
theorem ca_ne {h : Nat → Option PE} {i l : Nat} (h1 : Z (ca i) = 5 + 2 * i) (h2 : Z (ca l) = 5 + 2 * l) (hne : l ≠ i) : ca l ≠ ca i := fun e => by rw [e] at h2; omega
/-- what formed comes to, of curve i: its form at fa, its row at ra -/
def FD (ca cc : Nat → Nat) (ce : Nat → List Value) (so : Nat → Int32) (wk : Nat → Nat) (vl : Nat → Nat → Int32) (nc i : Nat) (Z2 kp2 : Nat → Nat) (t : WS) (fa : Nat) : Prop := ∃ (ra tc : Nat) (tr lo hi : Int32) (tn : Option Nat) (f : Nat → Int32), (∀ l, l < nc → CU t.1 Z2 ca cc ce so wk vl kp2 l) ∧ ZA Z2 t.2.1 ∧ t.1 (ca i) = some (ob (cc i) (.int (so i) :: .int (nI (wk i)) :: .ref ra :: .ref fa :: ce i)) ∧ Z2 fa = 6 + 2 * i ∧ t.1 fa = some (ob 1 [.ref ra, .int tr, .int (nI tc), .int lo, .int hi, va_rf tn]) ∧ FQ (vl i) tr tc lo hi ∧ Z2 ra = 4 ∧ t.1 ra = some (cI 4096 f) ∧ ∀ x, x < 4096 → f x = vl i x
theorem c_formed {ws : WS} {i : Nat} (hnc : nc ≤ 60) (hi : i < nc) (hcv : ∀ l, l < nc → CU ws.1 Z ca cc ce so wk vl kp l) (hza : ZA Z ws.2.1) : Hr (F_X1_formed (ca i)) ws (fun r t => ∃ (Z2 kp2 : Nat → Nat) (fa : Nat), r = some fa ∧ FD ca cc ce so wk vl nc i Z2 kp2 t fa ∧ GW nc (7 + 2 * i) Z kp ws Z2 kp2 t) := by
  obtain ⟨rr, fm, c1, c2, c3, c4, c5⟩ := hcv i hi
  have hmem := c3.cls
  unfold F_X1_formed
  refine hb_gR c1 hmem rfl ?_
  rcases c5 with ⟨e, hk⟩ | ⟨fa, ra, tc, tr, lo, hi2, tn, e1, e2, e3, e4, e5, e6, e7⟩
  · subst e
    refine hr_t rfl ?_
    refine hb_mk ?_
    have hz0 : Z ws.2.1 = 0 := by
      by_cases e : Z ws.2.1 = 0
      · exact e
      · exact absurd (hza _ e) (by omega)
    have hn : ∀ q, ¬ Z q = 0 → q ≠ ws.2.1 := fun q hq e => hq (by rw [e]; exact hz0)
    have hlt := hza (ca i) (by omega)
    refine hb_dr (up_ne (by omega) c1) hmem ?_
    refine hb_c (c_filled hnc i hi 64 (by omega) _ (u1 Z ws.2.1 1) kp rr none (fun l hl => (hcv l hl).keep (fun q hq => ⟨u1_z hz0 (by omega), up_ne (hn q (by omega)) rfl⟩) (Nat.le_refl _)) ?_ (up_ne (by omega) c1)) (fun r t1 h => ?_)
    · intro q hq
      show q < ws.2.1 + 1
      by_cases e : q = ws.2.1
      · omega
      · rw [u1_n e] at hq
        have := hza q hq
        omega
    · obtain ⟨Z1, kp1, ra, f, rfl, k1, k2, k3, k4, k5, k6, k7⟩ := h
      have hoz : Z1 ws.2.1 = 1 := (k3.1 _ (by rw [u1_s]; omega)).trans u1_s
      have hot : t1.1 ws.2.1 = some (ob 1 [.null, .int 0, .int 0, .int 0, .int 0, .null]) := (k3.2.1 _ (by rw [u1_s]; omega) (by rw [u1_s]; omega)).trans (up_eq rfl)
      have hne : ra ≠ ws.2.1 := fun e => by rw [e] at k5; omega
      refine hb_c (c_form_init (v := vl i) hot k6 k7 hne (k2 _ (by omega)) (k2 _ (by omega))) (fun _ t2 h => ?_)
      obtain ⟨tr, tc, lo, hi2, q1, q2, q3, q4, q5, q6⟩ := h
      have hcz : Z1 (ca i) = 5 + 2 * i := (k3.1 _ (by rw [u1_z hz0 (by omega)]; omega)).trans ((u1_z hz0 (by omega)).trans c2)
      have hc2 : t2.1 (ca i) = _ := (q3 _ (by omega) (k2 _ (by omega))).trans k4
      refine hb_pV hc2 hmem (by simp) ?_
      refine hb_gR (x := some ws.2.1) (up_eq rfl) hmem rfl ?_
      obtain ⟨r2, f2, d1, d2, d3, d4, d5⟩ := k1 i hi
      have er : r2 = some ra ∧ f2 = none := by
        rw [k4] at d1
        simp only [Option.some.injEq, Sum.inr.injEq, Prod.mk.injEq, List.cons.injEq, true_and, and_true] at d1
        exact ⟨(rf_inj (a := some ra) d1.1).symm, (rf_inj (a := none) d1.2).symm⟩
      obtain ⟨rfl, rfl⟩ := er
      have hkp : 3 ≤ kp1 i := by
        rcases d5 with ⟨g1, g2⟩ | ⟨fa, ra, tc, tr, lo, hi, tn, g1, -⟩
        · unfold nd at g2
          omega
        · cases g1
      have hsum := Sm_u1 (f := kp1) (i := i) (v := kp1 i - 2) hi
      have hold : ∀ q, ¬ Z1 q = 0 → q ≠ ws.2.1 → q ≠ ca i → (m_up t2.1 (ca i) (ob (cc i) (.int (so i) :: .int (nI (wk i)) :: .ref ra :: .ref ws.2.1 :: ce i))) q = t1.1 q := fun q hq a b => up_ne b (q3 q a (k2 q hq))
      have hra2 : (m_up t2.1 (ca i) (ob (cc i) (.int (so i) :: .int (nI (wk i)) :: .ref ra :: .ref ws.2.1 :: ce i))) ra = some (cI 4096 f) := (hold ra (by omega) hne (fun e => by rw [e] at k5; omega)).trans k6
      have hfa : (m_up t2.1 (ca i) (ob (cc i) (.int (so i) :: .int (nI (wk i)) :: .ref ra :: .ref ws.2.1 :: ce i))) ws.2.1 = some (ob 1 [.ref ra, .int tr, .int (nI tc), .int lo, .int hi2, .null]) := up_ne (by omega) q1
      have hz3 : ∀ q, Z1 q = 4 ∨ 5 ≤ Z1 q → u1 Z1 ws.2.1 (6 + 2 * i) q = Z1 q := fun q hq => u1_n (fun e => by rw [e, hoz] at hq; omega)
      refine hr_rt ⟨u1 Z1 ws.2.1 (6 + 2 * i), u1 kp1 i (kp1 i - 2), ws.2.1, rfl, ⟨ra, tc, tr, lo, hi2, none, f, fun l hl => ?_, fun q hq => ?_, up_eq rfl, u1_s, hfa, q2, (hz3 ra (Or.inl k5)).trans k5, hra2, k7⟩, ?_⟩
      · by_cases e : l = i
        · subst e
          refine ⟨some ra, some ws.2.1, up_eq rfl, (hz3 _ (by omega)).trans hcz, d3.keep (fun q hq => ⟨(hz3 q (Or.inl hq)).trans hq, hold q (by omega) (fun e => by rw [e] at hq; omega) (fun e => by rw [e] at hq; omega)⟩), Or.inr ⟨ra, f, rfl, (hz3 ra (Or.inl k5)).trans k5, hra2, k7⟩, Or.inr ⟨ws.2.1, ra, tc, tr, lo, hi2, none, rfl, u1_s, rfl, hfa, q2, ?_, Or.inl rfl⟩⟩
          rw [u1_s]
          unfold nd
          simp only
          omega
        · refine (k1 l hl).keep (fun q hq => ⟨hz3 q (by omega), hold q (by omega) (fun e2 => ?_) (fun e2 => ?_)⟩) ?_
          · rw [e2, hoz] at hq
            omega
          · rw [e2, hcz] at hq
            omega
          · rw [u1_n e]
            exact Nat.le_refl _
      · show q < t2.2.1
        by_cases e : q = ws.2.1
        · have := k2 ws.2.1 (by omega)
          omega
        · rw [u1_n e] at hq
          have := k2 q hq
          omega
      · obtain ⟨g1, g2, g3, g4⟩ := k3
        refine ⟨fun q hq => ?_, fun q hq hz => ?_, ?_, ?_⟩
        · rw [u1_n (hn q hq), g1 q (by rw [u1_z hz0 hq]; exact hq), u1_z hz0 hq]
        · have e1 : u1 Z ws.2.1 1 q = Z q := u1_z hz0 hq
          have e2 : Z1 q = Z q := (g1 q (by rw [e1]; exact hq)).trans e1
          refine (hold q (by omega) (hn q hq) (fun e => by rw [e] at e2 hz; omega)).trans ((g2 q (by rw [e1]; exact hq) (by rw [e1]; exact hz)).trans ?_)
          exact up_ne (hn q hq) rfl
        · show t2.2.1 + _ ≤ _
          dsimp only at g3
          omega
        · show t2.2.2 + _ ≤ _
          dsimp only at g4
          omega
  · subst e1
    refine hr_f (by simp) ?_
    refine hb_gR c1 hmem rfl ?_
    refine hr_rt ⟨Z, kp, fa, rfl, ?_, GW.rf⟩
    subst e3
    rcases c4 with e | ⟨a, f, e, z4, ha, hf⟩
    · cases e
    · cases e
      exact ⟨ra, tc, tr, lo, hi2, tn, f, hcv, hza, c1, e2, e4, e5, z4, ha, hf⟩
/-- the answer of turn -/
def TR (v : Nat → Int32) (k r : Int32) : Prop := ((k < 0 ∨ nI (ts v 4096).2 ≤ k) ∧ r = -1) ∨ ∃ x, x < 4096 ∧ isT v x ∧ k = nI (ts v x).2 ∧ r = nI x
theorem ts_lt31 {v : Nat → Int32} : (ts v 4096).2 < 2 ^ 31 := by
  have := ts_le (v := v) 4096
  omega
theorem c_turnNumbered {ws : WS} {i fa : Nat} {k : Int32} (hi : i < nc) (h : FD ca cc ce so wk vl nc i Z kp ws fa) : Hr (F_X2_turnNumbered fa k) ws (fun r t => ∃ (Z2 kp2 : Nat → Nat), (∀ l, l < nc → CU t.1 Z2 ca cc ce so wk vl kp2 l) ∧ ZA Z2 t.2.1 ∧ GW nc (7 + 2 * i) Z kp ws Z2 kp2 t ∧ TR (vl i) k r) := by
  obtain ⟨ra, tc, tr, lo, hi2, tn, f, hcv, hza, c1, z1, c2, c3, z2, c4, c5⟩ := h
  have htc : tc = (ts (vl i) 4096).2 := c3.2.1
  have htc2 : tc ≤ 4096 := by rw [htc]; exact ts_le 4096
  unfold F_X2_turnNumbered
  rcases ix_cases k tc (by omega) with h | ⟨j, hj, rfl, g1, g2⟩
  · refine hr_br (fun b1 => hr_rt ⟨Z, kp, hcv, hza, GW.rf, Or.inl ⟨Or.inl b1, rfl⟩⟩) (fun b1 => ?_)
    (repeat (first | (with_reducible refine hb_rt ?_) | ((with_reducible apply hb_gRs); (focus (first | assumption | exact up_eq rfl | exact up_ne (by omega) (by assumption) | exact up_ne (by omega) (up_eq rfl) | exact up_ne (by omega) (up_ne (by omega) (by assumption)) | exact up_ne (by omega) (up_ne (by omega) (up_eq rfl)) | exact up_ne (by omega) (up_ne (by omega) (up_ne (by omega) (by assumption))) | exact up_ne (by omega) (up_ne (by omega) (up_ne (by omega) (up_eq rfl))) | exact up_ne (by omega) (up_ne (by omega) (up_ne (by omega) (up_ne (by omega) (by assumption)))) | exact up_ne (by omega) (up_ne (by omega) (up_ne (by omega) (up_ne (by omega) (up_eq rfl)))))); (focus decide); (focus rfl)) | ((with_reducible apply hb_gI); (focus (first | assumption | exact up_eq rfl | exact up_ne (by omega) (by assumption) | exact up_ne (by omega) (up_eq rfl) | exact up_ne (by omega) (up_ne (by omega) (by assumption)) | exact up_ne (by omega) (up_ne (by omega) (up_eq rfl)) | exact up_ne (by omega) (up_ne (by omega) (up_ne (by omega) (by assumption))) | exact up_ne (by omega) (up_ne (by omega) (up_ne (by omega) (up_eq rfl))) | exact up_ne (by omega) (up_ne (by omega) (up_ne (by omega) (up_ne (by omega) (by assumption)))) | exact up_ne (by omega) (up_ne (by omega) (up_ne (by omega) (up_ne (by omega) (up_eq rfl)))))); (focus decide); (focus rfl)) | ((with_reducible apply hb_gRn); (focus (first | assumption | exact up_eq rfl | exact up_ne (by omega) (by assumption) | exact up_ne (by omega) (up_eq rfl) | exact up_ne (by omega) (up_ne (by omega) (by assumption)) | exact up_ne (by omega) (up_ne (by omega) (up_eq rfl)) | exact up_ne (by omega) (up_ne (by omega) (up_ne (by omega) (by assumption))) | exact up_ne (by omega) (up_ne (by omega) (up_ne (by omega) (up_eq rfl))) | exact up_ne (by omega) (up_ne (by omega) (up_ne (by omega) (up_ne (by omega) (by assumption)))) | exact up_ne (by omega) (up_ne (by omega) (up_ne (by omega) (up_ne (by omega) (up_eq rfl)))))); (focus decide); (focus rfl)) | ((with_reducible apply hb_gL); (focus (first | assumption | exact up_eq rfl | exact up_ne (by omega) (by assumption) | exact up_ne (by omega) (up_eq rfl) | exact up_ne (by omega) (up_ne (by omega) (by assumption)) | exact up_ne (by omega) (up_ne (by omega) (up_eq rfl)) | exact up_ne (by omega) (up_ne (by omega) (up_ne (by omega) (by assumption))) | exact up_ne (by omega) (up_ne (by omega) (up_ne (by omega) (up_eq rfl))) | exact up_ne (by omega) (up_ne (by omega) (up_ne (by omega) (up_ne (by omega) (by assumption)))) | exact up_ne (by omega) (up_ne (by omega) (up_ne (by omega) (up_ne (by omega) (up_eq rfl)))))); (focus decide); (focus rfl)) | ((with_reducible apply hb_gD); (focus (first | assumption | exact up_eq rfl | exact up_ne (by omega) (by assumption) | exact up_ne (by omega) (up_eq rfl) | exact up_ne (by omega) (up_ne (by omega) (by assumption)) | exact up_ne (by omega) (up_ne (by omega) (up_eq rfl)) | exact up_ne (by omega) (up_ne (by omega) (up_ne (by omega) (by assumption))) | exact up_ne (by omega) (up_ne (by omega) (up_ne (by omega) (up_eq rfl))) | exact up_ne (by omega) (up_ne (by omega) (up_ne (by omega) (up_ne (by omega) (by assumption)))) | exact up_ne (by omega) (up_ne (by omega) (up_ne (by omega) (up_ne (by omega) (up_eq rfl)))))); (focus decide); (focus rfl)) | ((with_reducible apply hb_gR); (focus (first | assumption | exact up_eq rfl | exact up_ne (by omega) (by assumption) | exact up_ne (by omega) (up_eq rfl) | exact up_ne (by omega) (up_ne (by omega) (by assumption)) | exact up_ne (by omega) (up_ne (by omega) (up_eq rfl)) | exact up_ne (by omega) (up_ne (by omega) (up_ne (by omega) (by assumption))) | exact up_ne (by omega) (up_ne (by omega) (up_ne (by omega) (up_eq rfl))) | exact up_ne (by omega) (up_ne (by omega) (up_ne (by omega) (up_ne (by omega) (by assumption)))) | exact up_ne (by omega) (up_ne (by omega) (up_ne (by omega) (up_ne (by omega) (up_eq rfl)))))); (focus decide); (focus rfl)) | ((with_reducible apply hb_dr); (focus (first | assumption | exact up_eq rfl | exact up_ne (by omega) (by assumption) | exact up_ne (by omega) (up_eq rfl) | exact up_ne (by omega) (up_ne (by omega) (by assumption)) | exact up_ne (by omega) (up_ne (by omega) (up_eq rfl)) | exact up_ne (by omega) (up_ne (by omega) (up_ne (by omega) (by assumption))) | exact up_ne (by omega) (up_ne (by omega) (up_ne (by omega) (up_eq rfl))) | exact up_ne (by omega) (up_ne (by omega) (up_ne (by omega) (up_ne (by omega) (by assumption)))) | exact up_ne (by omega) (up_ne (by omega) (up_ne (by omega) (up_ne (by omega) (up_eq rfl)))))); (focus decide)) | ((with_reducible apply hb_aI); (focus (first | assumption | exact up_eq rfl | exact up_ne (by omega) (by assumption) | exact up_ne (by omega) (up_eq rfl) | exact up_ne (by omega) (up_ne (by omega) (by assumption)) | exact up_ne (by omega) (up_ne (by omega) (up_eq rfl)) | exact up_ne (by omega) (up_ne (by omega) (up_ne (by omega) (by assumption))) | exact up_ne (by omega) (up_ne (by omega) (up_ne (by omega) (up_eq rfl))) | exact up_ne (by omega) (up_ne (by omega) (up_ne (by omega) (up_ne (by omega) (by assumption)))) | exact up_ne (by omega) (up_ne (by omega) (up_ne (by omega) (up_ne (by omega) (up_eq rfl)))))); (focus (first | assumption | exact nI_in (by omega) (by decide) | decide))) | ((with_reducible apply hb_sI); (focus (first | assumption | exact up_eq rfl | exact up_ne (by omega) (by assumption) | exact up_ne (by omega) (up_eq rfl) | exact up_ne (by omega) (up_ne (by omega) (by assumption)) | exact up_ne (by omega) (up_ne (by omega) (up_eq rfl)) | exact up_ne (by omega) (up_ne (by omega) (up_ne (by omega) (by assumption))) | exact up_ne (by omega) (up_ne (by omega) (up_ne (by omega) (up_eq rfl))) | exact up_ne (by omega) (up_ne (by omega) (up_ne (by omega) (up_ne (by omega) (by assumption)))) | exact up_ne (by omega) (up_ne (by omega) (up_ne (by omega) (up_ne (by omega) (up_eq rfl)))))); (focus (first | assumption | exact nI_in (by omega) (by decide) | decide))) | ((with_reducible apply hb_aR); (focus (first | assumption | exact up_eq rfl | exact up_ne (by omega) (by assumption) | exact up_ne (by omega) (up_eq rfl) | exact up_ne (by omega) (up_ne (by omega) (by assumption)) | exact up_ne (by omega) (up_ne (by omega) (up_eq rfl)) | exact up_ne (by omega) (up_ne (by omega) (up_ne (by omega) (by assumption))) | exact up_ne (by omega) (up_ne (by omega) (up_ne (by omega) (up_eq rfl))) | exact up_ne (by omega) (up_ne (by omega) (up_ne (by omega) (up_ne (by omega) (by assumption)))) | exact up_ne (by omega) (up_ne (by omega) (up_ne (by omega) (up_ne (by omega) (up_eq rfl)))))); (focus (first | assumption | exact nI_in (by omega) (by decide) | decide))) | ((with_reducible apply hb_aL); (focus (first | assumption | exact up_eq rfl | exact up_ne (by omega) (by assumption) | exact up_ne (by omega) (up_eq rfl) | exact up_ne (by omega) (up_ne (by omega) (by assumption)) | exact up_ne (by omega) (up_ne (by omega) (up_eq rfl)) | exact up_ne (by omega) (up_ne (by omega) (up_ne (by omega) (by assumption))) | exact up_ne (by omega) (up_ne (by omega) (up_ne (by omega) (up_eq rfl))) | exact up_ne (by omega) (up_ne (by omega) (up_ne (by omega) (up_ne (by omega) (by assumption)))) | exact up_ne (by omega) (up_ne (by omega) (up_ne (by omega) (up_ne (by omega) (up_eq rfl)))))); (focus (first | assumption | exact nI_in (by omega) (by decide) | decide))) | ((with_reducible apply hb_sL); (focus (first | assumption | exact up_eq rfl | exact up_ne (by omega) (by assumption) | exact up_ne (by omega) (up_eq rfl) | exact up_ne (by omega) (up_ne (by omega) (by assumption)) | exact up_ne (by omega) (up_ne (by omega) (up_eq rfl)) | exact up_ne (by omega) (up_ne (by omega) (up_ne (by omega) (by assumption))) | exact up_ne (by omega) (up_ne (by omega) (up_ne (by omega) (up_eq rfl))) | exact up_ne (by omega) (up_ne (by omega) (up_ne (by omega) (up_ne (by omega) (by assumption)))) | exact up_ne (by omega) (up_ne (by omega) (up_ne (by omega) (up_ne (by omega) (up_eq rfl)))))); (focus (first | assumption | exact nI_in (by omega) (by decide) | decide))) | ((with_reducible apply hb_pV); (focus (first | assumption | exact up_eq rfl | exact up_ne (by omega) (by assumption) | exact up_ne (by omega) (up_eq rfl) | exact up_ne (by omega) (up_ne (by omega) (by assumption)) | exact up_ne (by omega) (up_ne (by omega) (up_eq rfl)) | exact up_ne (by omega) (up_ne (by omega) (up_ne (by omega) (by assumption))) | exact up_ne (by omega) (up_ne (by omega) (up_ne (by omega) (up_eq rfl))) | exact up_ne (by omega) (up_ne (by omega) (up_ne (by omega) (up_ne (by omega) (by assumption)))) | exact up_ne (by omega) (up_ne (by omega) (up_ne (by omega) (up_ne (by omega) (up_eq rfl)))))); (focus decide); (focus simp))))
    refine hr_br (fun b2 => ?_) (fun b2 => hr_rt ⟨Z, kp, hcv, hza, GW.rf, Or.inl ⟨by rw [← htc]; exact h, rfl⟩⟩)
    rcases h with h | h
    · exact absurd h b1
    · exact absurd b2 (Int32.not_lt.mpr h)
  · refine hr_f g1 ?_
    (repeat (first | (with_reducible refine hb_rt ?_) | ((with_reducible apply hb_gRs); (focus (first | assumption | exact up_eq rfl | exact up_ne (by omega) (by assumption) | exact up_ne (by omega) (up_eq rfl) | exact up_ne (by omega) (up_ne (by omega) (by assumption)) | exact up_ne (by omega) (up_ne (by omega) (up_eq rfl)) | exact up_ne (by omega) (up_ne (by omega) (up_ne (by omega) (by assumption))) | exact up_ne (by omega) (up_ne (by omega) (up_ne (by omega) (up_eq rfl))) | exact up_ne (by omega) (up_ne (by omega) (up_ne (by omega) (up_ne (by omega) (by assumption)))) | exact up_ne (by omega) (up_ne (by omega) (up_ne (by omega) (up_ne (by omega) (up_eq rfl)))))); (focus decide); (focus rfl)) | ((with_reducible apply hb_gI); (focus (first | assumption | exact up_eq rfl | exact up_ne (by omega) (by assumption) | exact up_ne (by omega) (up_eq rfl) | exact up_ne (by omega) (up_ne (by omega) (by assumption)) | exact up_ne (by omega) (up_ne (by omega) (up_eq rfl)) | exact up_ne (by omega) (up_ne (by omega) (up_ne (by omega) (by assumption))) | exact up_ne (by omega) (up_ne (by omega) (up_ne (by omega) (up_eq rfl))) | exact up_ne (by omega) (up_ne (by omega) (up_ne (by omega) (up_ne (by omega) (by assumption)))) | exact up_ne (by omega) (up_ne (by omega) (up_ne (by omega) (up_ne (by omega) (up_eq rfl)))))); (focus decide); (focus rfl)) | ((with_reducible apply hb_gRn); (focus (first | assumption | exact up_eq rfl | exact up_ne (by omega) (by assumption) | exact up_ne (by omega) (up_eq rfl) | exact up_ne (by omega) (up_ne (by omega) (by assumption)) | exact up_ne (by omega) (up_ne (by omega) (up_eq rfl)) | exact up_ne (by omega) (up_ne (by omega) (up_ne (by omega) (by assumption))) | exact up_ne (by omega) (up_ne (by omega) (up_ne (by omega) (up_eq rfl))) | exact up_ne (by omega) (up_ne (by omega) (up_ne (by omega) (up_ne (by omega) (by assumption)))) | exact up_ne (by omega) (up_ne (by omega) (up_ne (by omega) (up_ne (by omega) (up_eq rfl)))))); (focus decide); (focus rfl)) | ((with_reducible apply hb_gL); (focus (first | assumption | exact up_eq rfl | exact up_ne (by omega) (by assumption) | exact up_ne (by omega) (up_eq rfl) | exact up_ne (by omega) (up_ne (by omega) (by assumption)) | exact up_ne (by omega) (up_ne (by omega) (up_eq rfl)) | exact up_ne (by omega) (up_ne (by omega) (up_ne (by omega) (by assumption))) | exact up_ne (by omega) (up_ne (by omega) (up_ne (by omega) (up_eq rfl))) | exact up_ne (by omega) (up_ne (by omega) (up_ne (by omega) (up_ne (by omega) (by assumption)))) | exact up_ne (by omega) (up_ne (by omega) (up_ne (by omega) (up_ne (by omega) (up_eq rfl)))))); (focus decide); (focus rfl)) | ((with_reducible apply hb_gD); (focus (first | assumption | exact up_eq rfl | exact up_ne (by omega) (by assumption) | exact up_ne (by omega) (up_eq rfl) | exact up_ne (by omega) (up_ne (by omega) (by assumption)) | exact up_ne (by omega) (up_ne (by omega) (up_eq rfl)) | exact up_ne (by omega) (up_ne (by omega) (up_ne (by omega) (by assumption))) | exact up_ne (by omega) (up_ne (by omega) (up_ne (by omega) (up_eq rfl))) | exact up_ne (by omega) (up_ne (by omega) (up_ne (by omega) (up_ne (by omega) (by assumption)))) | exact up_ne (by omega) (up_ne (by omega) (up_ne (by omega) (up_ne (by omega) (up_eq rfl)))))); (focus decide); (focus rfl)) | ((with_reducible apply hb_gR); (focus (first | assumption | exact up_eq rfl | exact up_ne (by omega) (by assumption) | exact up_ne (by omega) (up_eq rfl) | exact up_ne (by omega) (up_ne (by omega) (by assumption)) | exact up_ne (by omega) (up_ne (by omega) (up_eq rfl)) | exact up_ne (by omega) (up_ne (by omega) (up_ne (by omega) (by assumption))) | exact up_ne (by omega) (up_ne (by omega) (up_ne (by omega) (up_eq rfl))) | exact up_ne (by omega) (up_ne (by omega) (up_ne (by omega) (up_ne (by omega) (by assumption)))) | exact up_ne (by omega) (up_ne (by omega) (up_ne (by omega) (up_ne (by omega) (up_eq rfl)))))); (focus decide); (focus rfl)) | ((with_reducible apply hb_dr); (focus (first | assumption | exact up_eq rfl | exact up_ne (by omega) (by assumption) | exact up_ne (by omega) (up_eq rfl) | exact up_ne (by omega) (up_ne (by omega) (by assumption)) | exact up_ne (by omega) (up_ne (by omega) (up_eq rfl)) | exact up_ne (by omega) (up_ne (by omega) (up_ne (by omega) (by assumption))) | exact up_ne (by omega) (up_ne (by omega) (up_ne (by omega) (up_eq rfl))) | exact up_ne (by omega) (up_ne (by omega) (up_ne (by omega) (up_ne (by omega) (by assumption)))) | exact up_ne (by omega) (up_ne (by omega) (up_ne (by omega) (up_ne (by omega) (up_eq rfl)))))); (focus decide)) | ((with_reducible apply hb_aI); (focus (first | assumption | exact up_eq rfl | exact up_ne (by omega) (by assumption) | exact up_ne (by omega) (up_eq rfl) | exact up_ne (by omega) (up_ne (by omega) (by assumption)) | exact up_ne (by omega) (up_ne (by omega) (up_eq rfl)) | exact up_ne (by omega) (up_ne (by omega) (up_ne (by omega) (by assumption))) | exact up_ne (by omega) (up_ne (by omega) (up_ne (by omega) (up_eq rfl))) | exact up_ne (by omega) (up_ne (by omega) (up_ne (by omega) (up_ne (by omega) (by assumption)))) | exact up_ne (by omega) (up_ne (by omega) (up_ne (by omega) (up_ne (by omega) (up_eq rfl)))))); (focus (first | assumption | exact nI_in (by omega) (by decide) | decide))) | ((with_reducible apply hb_sI); (focus (first | assumption | exact up_eq rfl | exact up_ne (by omega) (by assumption) | exact up_ne (by omega) (up_eq rfl) | exact up_ne (by omega) (up_ne (by omega) (by assumption)) | exact up_ne (by omega) (up_ne (by omega) (up_eq rfl)) | exact up_ne (by omega) (up_ne (by omega) (up_ne (by omega) (by assumption))) | exact up_ne (by omega) (up_ne (by omega) (up_ne (by omega) (up_eq rfl))) | exact up_ne (by omega) (up_ne (by omega) (up_ne (by omega) (up_ne (by omega) (by assumption)))) | exact up_ne (by omega) (up_ne (by omega) (up_ne (by omega) (up_ne (by omega) (up_eq rfl)))))); (focus (first | assumption | exact nI_in (by omega) (by decide) | decide))) | ((with_reducible apply hb_aR); (focus (first | assumption | exact up_eq rfl | exact up_ne (by omega) (by assumption) | exact up_ne (by omega) (up_eq rfl) | exact up_ne (by omega) (up_ne (by omega) (by assumption)) | exact up_ne (by omega) (up_ne (by omega) (up_eq rfl)) | exact up_ne (by omega) (up_ne (by omega) (up_ne (by omega) (by assumption))) | exact up_ne (by omega) (up_ne (by omega) (up_ne (by omega) (up_eq rfl))) | exact up_ne (by omega) (up_ne (by omega) (up_ne (by omega) (up_ne (by omega) (by assumption)))) | exact up_ne (by omega) (up_ne (by omega) (up_ne (by omega) (up_ne (by omega) (up_eq rfl)))))); (focus (first | assumption | exact nI_in (by omega) (by decide) | decide))) | ((with_reducible apply hb_aL); (focus (first | assumption | exact up_eq rfl | exact up_ne (by omega) (by assumption) | exact up_ne (by omega) (up_eq rfl) | exact up_ne (by omega) (up_ne (by omega) (by assumption)) | exact up_ne (by omega) (up_ne (by omega) (up_eq rfl)) | exact up_ne (by omega) (up_ne (by omega) (up_ne (by omega) (by assumption))) | exact up_ne (by omega) (up_ne (by omega) (up_ne (by omega) (up_eq rfl))) | exact up_ne (by omega) (up_ne (by omega) (up_ne (by omega) (up_ne (by omega) (by assumption)))) | exact up_ne (by omega) (up_ne (by omega) (up_ne (by omega) (up_ne (by omega) (up_eq rfl)))))); (focus (first | assumption | exact nI_in (by omega) (by decide) | decide))) | ((with_reducible apply hb_sL); (focus (first | assumption | exact up_eq rfl | exact up_ne (by omega) (by assumption) | exact up_ne (by omega) (up_eq rfl) | exact up_ne (by omega) (up_ne (by omega) (by assumption)) | exact up_ne (by omega) (up_ne (by omega) (up_eq rfl)) | exact up_ne (by omega) (up_ne (by omega) (up_ne (by omega) (by assumption))) | exact up_ne (by omega) (up_ne (by omega) (up_ne (by omega) (up_eq rfl))) | exact up_ne (by omega) (up_ne (by omega) (up_ne (by omega) (up_ne (by omega) (by assumption)))) | exact up_ne (by omega) (up_ne (by omega) (up_ne (by omega) (up_ne (by omega) (up_eq rfl)))))); (focus (first | assumption | exact nI_in (by omega) (by decide) | decide))) | ((with_reducible apply hb_pV); (focus (first | assumption | exact up_eq rfl | exact up_ne (by omega) (by assumption) | exact up_ne (by omega) (up_eq rfl) | exact up_ne (by omega) (up_ne (by omega) (by assumption)) | exact up_ne (by omega) (up_ne (by omega) (up_eq rfl)) | exact up_ne (by omega) (up_ne (by omega) (up_ne (by omega) (by assumption))) | exact up_ne (by omega) (up_ne (by omega) (up_ne (by omega) (up_eq rfl))) | exact up_ne (by omega) (up_ne (by omega) (up_ne (by omega) (up_ne (by omega) (by assumption)))) | exact up_ne (by omega) (up_ne (by omega) (up_ne (by omega) (up_ne (by omega) (up_eq rfl)))))); (focus decide); (focus simp))))
    refine hr_t (Int32.not_le.mp g2) ?_
    obtain ⟨x, x1, x2, x3⟩ := ts_ex (v := vl i) (k := j) 4096 (by omega)
    refine hb_gR c2 (by decide) rfl ?_
    obtain ⟨r0, f0, d1, d2, d3, d4, d5⟩ := hcv i hi
    have er : r0 = some ra ∧ f0 = some fa := by
      rw [c1] at d1
      simp only [Option.some.injEq, Sum.inr.injEq, Prod.mk.injEq, List.cons.injEq, true_and, and_true] at d1
      exact ⟨(rf_inj (a := some ra) d1.1).symm, (rf_inj (a := some fa) d1.2).symm⟩
    obtain ⟨rfl, rfl⟩ := er
    rcases d5 with ⟨e, -⟩ | ⟨fa2, ra2, tc2, tr2, lo2, hi3, tn2, e1, e2, e3, e4, e5, e6, e7⟩
    · cases e
    · cases e1
      cases e3
      have et : tc2 = tc := by rw [e5.2.1, htc]
      subst et
      have en : tn2 = tn := by
        rw [c2] at e4
        simp only [Option.some.injEq, Sum.inr.injEq, Prod.mk.injEq, List.cons.injEq, true_and, and_true] at e4
        exact (rf_inj e4.2.2.2).symm
      subst en
      rcases e7 with e | ⟨ta, g, e, za, ha, hg⟩
      · subst e
        refine hr_t rfl ?_
        (repeat (first | (with_reducible refine hb_rt ?_) | ((with_reducible apply hb_gRs); (focus (first | assumption | exact up_eq rfl | exact up_ne (by omega) (by assumption) | exact up_ne (by omega) (up_eq rfl) | exact up_ne (by omega) (up_ne (by omega) (by assumption)) | exact up_ne (by omega) (up_ne (by omega) (up_eq rfl)) | exact up_ne (by omega) (up_ne (by omega) (up_ne (by omega) (by assumption))) | exact up_ne (by omega) (up_ne (by omega) (up_ne (by omega) (up_eq rfl))) | exact up_ne (by omega) (up_ne (by omega) (up_ne (by omega) (up_ne (by omega) (by assumption)))) | exact up_ne (by omega) (up_ne (by omega) (up_ne (by omega) (up_ne (by omega) (up_eq rfl)))))); (focus decide); (focus rfl)) | ((with_reducible apply hb_gI); (focus (first | assumption | exact up_eq rfl | exact up_ne (by omega) (by assumption) | exact up_ne (by omega) (up_eq rfl) | exact up_ne (by omega) (up_ne (by omega) (by assumption)) | exact up_ne (by omega) (up_ne (by omega) (up_eq rfl)) | exact up_ne (by omega) (up_ne (by omega) (up_ne (by omega) (by assumption))) | exact up_ne (by omega) (up_ne (by omega) (up_ne (by omega) (up_eq rfl))) | exact up_ne (by omega) (up_ne (by omega) (up_ne (by omega) (up_ne (by omega) (by assumption)))) | exact up_ne (by omega) (up_ne (by omega) (up_ne (by omega) (up_ne (by omega) (up_eq rfl)))))); (focus decide); (focus rfl)) | ((with_reducible apply hb_gRn); (focus (first | assumption | exact up_eq rfl | exact up_ne (by omega) (by assumption) | exact up_ne (by omega) (up_eq rfl) | exact up_ne (by omega) (up_ne (by omega) (by assumption)) | exact up_ne (by omega) (up_ne (by omega) (up_eq rfl)) | exact up_ne (by omega) (up_ne (by omega) (up_ne (by omega) (by assumption))) | exact up_ne (by omega) (up_ne (by omega) (up_ne (by omega) (up_eq rfl))) | exact up_ne (by omega) (up_ne (by omega) (up_ne (by omega) (up_ne (by omega) (by assumption)))) | exact up_ne (by omega) (up_ne (by omega) (up_ne (by omega) (up_ne (by omega) (up_eq rfl)))))); (focus decide); (focus rfl)) | ((with_reducible apply hb_gL); (focus (first | assumption | exact up_eq rfl | exact up_ne (by omega) (by assumption) | exact up_ne (by omega) (up_eq rfl) | exact up_ne (by omega) (up_ne (by omega) (by assumption)) | exact up_ne (by omega) (up_ne (by omega) (up_eq rfl)) | exact up_ne (by omega) (up_ne (by omega) (up_ne (by omega) (by assumption))) | exact up_ne (by omega) (up_ne (by omega) (up_ne (by omega) (up_eq rfl))) | exact up_ne (by omega) (up_ne (by omega) (up_ne (by omega) (up_ne (by omega) (by assumption)))) | exact up_ne (by omega) (up_ne (by omega) (up_ne (by omega) (up_ne (by omega) (up_eq rfl)))))); (focus decide); (focus rfl)) | ((with_reducible apply hb_gD); (focus (first | assumption | exact up_eq rfl | exact up_ne (by omega) (by assumption) | exact up_ne (by omega) (up_eq rfl) | exact up_ne (by omega) (up_ne (by omega) (by assumption)) | exact up_ne (by omega) (up_ne (by omega) (up_eq rfl)) | exact up_ne (by omega) (up_ne (by omega) (up_ne (by omega) (by assumption))) | exact up_ne (by omega) (up_ne (by omega) (up_ne (by omega) (up_eq rfl))) | exact up_ne (by omega) (up_ne (by omega) (up_ne (by omega) (up_ne (by omega) (by assumption)))) | exact up_ne (by omega) (up_ne (by omega) (up_ne (by omega) (up_ne (by omega) (up_eq rfl)))))); (focus decide); (focus rfl)) | ((with_reducible apply hb_gR); (focus (first | assumption | exact up_eq rfl | exact up_ne (by omega) (by assumption) | exact up_ne (by omega) (up_eq rfl) | exact up_ne (by omega) (up_ne (by omega) (by assumption)) | exact up_ne (by omega) (up_ne (by omega) (up_eq rfl)) | exact up_ne (by omega) (up_ne (by omega) (up_ne (by omega) (by assumption))) | exact up_ne (by omega) (up_ne (by omega) (up_ne (by omega) (up_eq rfl))) | exact up_ne (by omega) (up_ne (by omega) (up_ne (by omega) (up_ne (by omega) (by assumption)))) | exact up_ne (by omega) (up_ne (by omega) (up_ne (by omega) (up_ne (by omega) (up_eq rfl)))))); (focus decide); (focus rfl)) | ((with_reducible apply hb_dr); (focus (first | assumption | exact up_eq rfl | exact up_ne (by omega) (by assumption) | exact up_ne (by omega) (up_eq rfl) | exact up_ne (by omega) (up_ne (by omega) (by assumption)) | exact up_ne (by omega) (up_ne (by omega) (up_eq rfl)) | exact up_ne (by omega) (up_ne (by omega) (up_ne (by omega) (by assumption))) | exact up_ne (by omega) (up_ne (by omega) (up_ne (by omega) (up_eq rfl))) | exact up_ne (by omega) (up_ne (by omega) (up_ne (by omega) (up_ne (by omega) (by assumption)))) | exact up_ne (by omega) (up_ne (by omega) (up_ne (by omega) (up_ne (by omega) (up_eq rfl)))))); (focus decide)) | ((with_reducible apply hb_aI); (focus (first | assumption | exact up_eq rfl | exact up_ne (by omega) (by assumption) | exact up_ne (by omega) (up_eq rfl) | exact up_ne (by omega) (up_ne (by omega) (by assumption)) | exact up_ne (by omega) (up_ne (by omega) (up_eq rfl)) | exact up_ne (by omega) (up_ne (by omega) (up_ne (by omega) (by assumption))) | exact up_ne (by omega) (up_ne (by omega) (up_ne (by omega) (up_eq rfl))) | exact up_ne (by omega) (up_ne (by omega) (up_ne (by omega) (up_ne (by omega) (by assumption)))) | exact up_ne (by omega) (up_ne (by omega) (up_ne (by omega) (up_ne (by omega) (up_eq rfl)))))); (focus (first | assumption | exact nI_in (by omega) (by decide) | decide))) | ((with_reducible apply hb_sI); (focus (first | assumption | exact up_eq rfl | exact up_ne (by omega) (by assumption) | exact up_ne (by omega) (up_eq rfl) | exact up_ne (by omega) (up_ne (by omega) (by assumption)) | exact up_ne (by omega) (up_ne (by omega) (up_eq rfl)) | exact up_ne (by omega) (up_ne (by omega) (up_ne (by omega) (by assumption))) | exact up_ne (by omega) (up_ne (by omega) (up_ne (by omega) (up_eq rfl))) | exact up_ne (by omega) (up_ne (by omega) (up_ne (by omega) (up_ne (by omega) (by assumption)))) | exact up_ne (by omega) (up_ne (by omega) (up_ne (by omega) (up_ne (by omega) (up_eq rfl)))))); (focus (first | assumption | exact nI_in (by omega) (by decide) | decide))) | ((with_reducible apply hb_aR); (focus (first | assumption | exact up_eq rfl | exact up_ne (by omega) (by assumption) | exact up_ne (by omega) (up_eq rfl) | exact up_ne (by omega) (up_ne (by omega) (by assumption)) | exact up_ne (by omega) (up_ne (by omega) (up_eq rfl)) | exact up_ne (by omega) (up_ne (by omega) (up_ne (by omega) (by assumption))) | exact up_ne (by omega) (up_ne (by omega) (up_ne (by omega) (up_eq rfl))) | exact up_ne (by omega) (up_ne (by omega) (up_ne (by omega) (up_ne (by omega) (by assumption)))) | exact up_ne (by omega) (up_ne (by omega) (up_ne (by omega) (up_ne (by omega) (up_eq rfl)))))); (focus (first | assumption | exact nI_in (by omega) (by decide) | decide))) | ((with_reducible apply hb_aL); (focus (first | assumption | exact up_eq rfl | exact up_ne (by omega) (by assumption) | exact up_ne (by omega) (up_eq rfl) | exact up_ne (by omega) (up_ne (by omega) (by assumption)) | exact up_ne (by omega) (up_ne (by omega) (up_eq rfl)) | exact up_ne (by omega) (up_ne (by omega) (up_ne (by omega) (by assumption))) | exact up_ne (by omega) (up_ne (by omega) (up_ne (by omega) (up_eq rfl))) | exact up_ne (by omega) (up_ne (by omega) (up_ne (by omega) (up_ne (by omega) (by assumption)))) | exact up_ne (by omega) (up_ne (by omega) (up_ne (by omega) (up_ne (by omega) (up_eq rfl)))))); (focus (first | assumption | exact nI_in (by omega) (by decide) | decide))) | ((with_reducible apply hb_sL); (focus (first | assumption | exact up_eq rfl | exact up_ne (by omega) (by assumption) | exact up_ne (by omega) (up_eq rfl) | exact up_ne (by omega) (up_ne (by omega) (by assumption)) | exact up_ne (by omega) (up_ne (by omega) (up_eq rfl)) | exact up_ne (by omega) (up_ne (by omega) (up_ne (by omega) (by assumption))) | exact up_ne (by omega) (up_ne (by omega) (up_ne (by omega) (up_eq rfl))) | exact up_ne (by omega) (up_ne (by omega) (up_ne (by omega) (up_ne (by omega) (by assumption)))) | exact up_ne (by omega) (up_ne (by omega) (up_ne (by omega) (up_ne (by omega) (up_eq rfl)))))); (focus (first | assumption | exact nI_in (by omega) (by decide) | decide))) | ((with_reducible apply hb_pV); (focus (first | assumption | exact up_eq rfl | exact up_ne (by omega) (by assumption) | exact up_ne (by omega) (up_eq rfl) | exact up_ne (by omega) (up_ne (by omega) (by assumption)) | exact up_ne (by omega) (up_ne (by omega) (up_eq rfl)) | exact up_ne (by omega) (up_ne (by omega) (up_ne (by omega) (by assumption))) | exact up_ne (by omega) (up_ne (by omega) (up_ne (by omega) (up_eq rfl))) | exact up_ne (by omega) (up_ne (by omega) (up_ne (by omega) (up_ne (by omega) (by assumption)))) | exact up_ne (by omega) (up_ne (by omega) (up_ne (by omega) (up_ne (by omega) (up_eq rfl)))))); (focus decide); (focus simp))))
        refine hb_nA (by rw [nI_clamp (by omega)]; intro h; rcases h with h | h; exact nI_pos (by omega) h; omega) ?_
        rw [nI_clamp (by omega)]
        have hz0 : Z ws.2.1 = 0 := by
          by_cases e : Z ws.2.1 = 0
          · exact e
          · exact absurd (hza _ e) (by omega)
        have hn : ∀ q, ¬ Z q = 0 → q ≠ ws.2.1 := fun q hq e => hq (by rw [e]; exact hz0)
        have hfl := hza fa (by omega)
        have hrl := hza ra (by omega)
        refine hb_pV (up_ne (by omega) c2) (by decide) (by simp) ?_
        refine hb_gRs (up_eq rfl) (by decide) rfl ?_
        refine hb_gRs (x := ws.2.1) (up_eq rfl) (by decide) rfl ?_
        have hrf : ra ≠ fa := fun e => by rw [e] at z2; omega
        refine hb_c (c_findTurns (v := vl i) (ra := ra) (ta := ws.2.1) (len := tc2) (g := fun _ => 0) (f := f) (up_ne hrf (up_ne (by omega) c4)) c5 (up_ne (by omega) (up_eq rfl)) (by omega) (by omega)) (fun r t h => ?_)
        obtain ⟨-, t1, t2, g, t3, t4⟩ := h
        have htf : t.1 fa = some (ob 1 [.ref ra, .int tr, .int (nI tc2), .int lo, .int hi2, .ref ws.2.1]) := (t2 fa (by omega)).trans (up_eq rfl)
        unfold j_X2_turnNumbered_43
        refine hb_gRs (x := ws.2.1) htf (by decide) rfl ?_
        refine hb_aI t3 (nI_in hj (by omega)) ?_
        rw [nI_clamp (by omega)]
        have hold : ∀ q, ¬ Z q = 0 → q ≠ fa → t.1 q = ws.1 q := fun q hq a => (t2 q (hn q hq)).trans (up_ne a (up_ne (hn q hq) rfl))
        have hsum := Sm_u1 (f := kp) (i := i) (v := kp i - 1) hi
        have hk1 : 1 ≤ kp i := e6
        have hg : TQ (vl i) g := fun y y1 y2 => t4 y y1 y2 (by rw [htc]; exact ts_lt y2 y1)
        refine hr_rt ⟨u1 Z ws.2.1 4, u1 kp i (kp i - 1), fun l hl => ?_, fun q hq => ?_, ⟨fun q hq => u1_z hz0 hq, fun q hq hz => hold q hq (fun e => by rw [e] at hz; omega), ?_, ?_⟩, Or.inr ⟨x, x1, x2, by rw [x3], ?_⟩⟩
        · by_cases e : l = i
          · subst e
            have hci : ca l ≠ fa := fun e => by rw [e] at d2; omega
            refine ⟨some ra, some fa, (hold _ (by omega) hci).trans c1, (u1_z hz0 (by omega)).trans d2, d3.keep (fun q hq => ⟨(u1_z hz0 (by omega)).trans hq, hold q (by omega) (fun e => by rw [e] at hq; omega)⟩), d4.keep (fun q hq => ⟨(u1_z hz0 (by omega)).trans hq, hold q (by omega) (fun e => by rw [e] at hq; omega)⟩), Or.inr ⟨fa, ra, tc2, tr, lo, hi2, some ws.2.1, rfl, (u1_z hz0 (by omega)).trans z1, rfl, htf, c3, Nat.zero_le _, Or.inr ⟨ws.2.1, g, rfl, u1_s, t3, hg⟩⟩⟩
          · refine (hcv l hl).keep (fun q hq => ⟨u1_z hz0 (by omega), hold q (by omega) (fun e2 => ?_)⟩) ?_
            · rw [e2, z1] at hq
              omega
            · rw [u1_n e]
              exact Nat.le_refl _
        · have e1 : t.2.1 = ws.2.1 + 1 := by rw [t1]
          rw [e1]
          by_cases e : q = ws.2.1
          · omega
          · rw [u1_n e] at hq
            have := hza q hq
            omega
        · have e1 : t.2.1 = ws.2.1 + 1 := by rw [t1]
          omega
        · have e1 : t.2.2 = ws.2.2 + tc2 := by rw [t1]
          omega
        · rw [← x3]
          exact hg x x1 x2
      · subst e
        refine hr_f (by simp) ?_
        unfold j_X2_turnNumbered_43
        refine hb_gRs c2 (by decide) rfl ?_
        refine hb_aI ha (nI_in hj (by omega)) ?_
        rw [nI_clamp (by omega)]
        refine hr_rt ⟨Z, kp, hcv, hza, GW.rf, Or.inr ⟨x, x1, x2, by rw [x3], ?_⟩⟩
        rw [← x3]
        exact hg x x1 x2
end ASK
