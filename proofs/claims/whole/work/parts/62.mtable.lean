/-! ===== TABLES, the reference's ===== -/
def TM (h : Nat → Option PE) (am : Nat) (vl : Nat → Nat → Int32) (tcu : Nat → Option Nat) (tst : Nat → Nat) : Prop := ∃ (a b : Nat → Int32) (e : Nat → UInt32), h (am + 16) = some (cI 4 a) ∧ h (am + 17) = some (cI 4 b) ∧ h (am + 18) = some (cF 1028 e) ∧ ∀ t, t < 4 → a t = pcv (tcu t) ∧ ∀ c, tcu t = some c → b t = nI (tst t) ∧ ∀ k, k < en (tst t) → e (257 * t + k) = TE (vl c) (tst t) k
theorem TM.keep {h h2 : Nat → Option PE} {am nc : Nat} {vl vl2 : Nat → Nat → Int32} {tcu : Nat → Option Nat} {tst : Nat → Nat} (ht : TM h am vl tcu tst) (hi : TI nc tcu tst) (hq : ∀ q, am + 16 ≤ q → q < am + 19 → h2 q = h q) (hv : ∀ i, i < nc → vl2 i = vl i) : TM h2 am vl2 tcu tst := by
  obtain ⟨a, b, e, h1, h2', h3, h4⟩ := ht
  refine ⟨a, b, e, (hq _ (by omega) (by omega)).trans h1, (hq _ (by omega) (by omega)).trans h2', (hq _ (by omega) (by omega)).trans h3, fun t ht => ⟨(h4 t ht).1, fun c hc => ?_⟩⟩
  rw [hv c (hi t c ht hc).1]
  exact (h4 t ht).2 c hc
theorem ix257 (t k : Nat) : (257 : Int32) * nI t + nI k = nI (257 * t + k) := by
  rw [show (257 : Int32) = nI 257 from rfl, pk_mul, nI_add]
section MTAB
variable {am nc kn : Nat} {so : Nat → Int32} {wk : Nat → Nat} {vl : Nat → Nat → Int32} {tcu : Nat → Option Nat} {tst : Nat → Nat} {ws : WS}
theorem m_table {x1 x2 x3 : Int32} {P : Int32 → WS → Prop} (hm : MO ws.1 am nc kn) (hc : MC ws.1 am nc so wk vl) (hnc : nc ≤ 60) (htm : TM ws.1 am vl tcu tst) (hti : TI nc tcu tst)
    (h1 : ∀ t c st, okTb nc x1 x2 x3 t c st → ∀ u : WS, TM u.1 am vl (u1 tcu t (some c)) (u1 tst t st) → FR ws u (am + 16) (am + 19) → P (nI (en st)) u)
    (h0 : (∀ t c st, ¬ okTb nc x1 x2 x3 t c st) → P (-2) ws) : Hr (F_X11_table am x1 x2 x3) ws P := by
  have hm0 := hm
  unfold MO at hm0
  obtain ⟨a, b, e, g1, g2, g3, hg⟩ := htm
  obtain ⟨f5, f6, f7, g5, g6, g7, hg7⟩ := hc
  have hpart : ∀ t c st, okTb nc x1 x2 x3 t c st → Hr (j_X11_table_37 am (nI t) (nI c) (nI st)) ws P := by
    intro t c st hok
    have hP := h1 t c st hok
    obtain ⟨ht4, -, hcn, -, hst, -⟩ := hok
    obtain ⟨n1, n2, n3, n4⟩ := isSt hst
    obtain ⟨b1, b2, b3⟩ := en_b hst
    have hct : (nI t).toNatClampNeg = t := nI_clamp (by omega)
    have hsz : (4096 : Int32) / nI st + 1 = nI (en st) := by
      rw [show (4096 : Int32) = nI 4096 from rfl, pk_div (by decide) n3 n4, nI_1]
      rfl
    unfold j_X11_table_37
    (repeat (first | (with_reducible refine hb_rt ?_) | ((with_reducible apply hb_gRs); (focus (first | assumption | exact up_eq rfl | exact up_ne (by omega) (by assumption) | exact up_ne (by omega) (up_eq rfl) | exact up_ne (by omega) (up_ne (by omega) (by assumption)) | exact up_ne (by omega) (up_ne (by omega) (up_eq rfl)) | exact up_ne (by omega) (up_ne (by omega) (up_ne (by omega) (by assumption))) | exact up_ne (by omega) (up_ne (by omega) (up_ne (by omega) (up_eq rfl))) | exact up_ne (by omega) (up_ne (by omega) (up_ne (by omega) (up_ne (by omega) (by assumption)))) | exact up_ne (by omega) (up_ne (by omega) (up_ne (by omega) (up_ne (by omega) (up_eq rfl)))))); (focus decide); (focus rfl)) | ((with_reducible apply hb_gI); (focus (first | assumption | exact up_eq rfl | exact up_ne (by omega) (by assumption) | exact up_ne (by omega) (up_eq rfl) | exact up_ne (by omega) (up_ne (by omega) (by assumption)) | exact up_ne (by omega) (up_ne (by omega) (up_eq rfl)) | exact up_ne (by omega) (up_ne (by omega) (up_ne (by omega) (by assumption))) | exact up_ne (by omega) (up_ne (by omega) (up_ne (by omega) (up_eq rfl))) | exact up_ne (by omega) (up_ne (by omega) (up_ne (by omega) (up_ne (by omega) (by assumption)))) | exact up_ne (by omega) (up_ne (by omega) (up_ne (by omega) (up_ne (by omega) (up_eq rfl)))))); (focus decide); (focus rfl)) | ((with_reducible apply hb_gRn); (focus (first | assumption | exact up_eq rfl | exact up_ne (by omega) (by assumption) | exact up_ne (by omega) (up_eq rfl) | exact up_ne (by omega) (up_ne (by omega) (by assumption)) | exact up_ne (by omega) (up_ne (by omega) (up_eq rfl)) | exact up_ne (by omega) (up_ne (by omega) (up_ne (by omega) (by assumption))) | exact up_ne (by omega) (up_ne (by omega) (up_ne (by omega) (up_eq rfl))) | exact up_ne (by omega) (up_ne (by omega) (up_ne (by omega) (up_ne (by omega) (by assumption)))) | exact up_ne (by omega) (up_ne (by omega) (up_ne (by omega) (up_ne (by omega) (up_eq rfl)))))); (focus decide); (focus rfl)) | ((with_reducible apply hb_gL); (focus (first | assumption | exact up_eq rfl | exact up_ne (by omega) (by assumption) | exact up_ne (by omega) (up_eq rfl) | exact up_ne (by omega) (up_ne (by omega) (by assumption)) | exact up_ne (by omega) (up_ne (by omega) (up_eq rfl)) | exact up_ne (by omega) (up_ne (by omega) (up_ne (by omega) (by assumption))) | exact up_ne (by omega) (up_ne (by omega) (up_ne (by omega) (up_eq rfl))) | exact up_ne (by omega) (up_ne (by omega) (up_ne (by omega) (up_ne (by omega) (by assumption)))) | exact up_ne (by omega) (up_ne (by omega) (up_ne (by omega) (up_ne (by omega) (up_eq rfl)))))); (focus decide); (focus rfl)) | ((with_reducible apply hb_gD); (focus (first | assumption | exact up_eq rfl | exact up_ne (by omega) (by assumption) | exact up_ne (by omega) (up_eq rfl) | exact up_ne (by omega) (up_ne (by omega) (by assumption)) | exact up_ne (by omega) (up_ne (by omega) (up_eq rfl)) | exact up_ne (by omega) (up_ne (by omega) (up_ne (by omega) (by assumption))) | exact up_ne (by omega) (up_ne (by omega) (up_ne (by omega) (up_eq rfl))) | exact up_ne (by omega) (up_ne (by omega) (up_ne (by omega) (up_ne (by omega) (by assumption)))) | exact up_ne (by omega) (up_ne (by omega) (up_ne (by omega) (up_ne (by omega) (up_eq rfl)))))); (focus decide); (focus rfl)) | ((with_reducible apply hb_gR); (focus (first | assumption | exact up_eq rfl | exact up_ne (by omega) (by assumption) | exact up_ne (by omega) (up_eq rfl) | exact up_ne (by omega) (up_ne (by omega) (by assumption)) | exact up_ne (by omega) (up_ne (by omega) (up_eq rfl)) | exact up_ne (by omega) (up_ne (by omega) (up_ne (by omega) (by assumption))) | exact up_ne (by omega) (up_ne (by omega) (up_ne (by omega) (up_eq rfl))) | exact up_ne (by omega) (up_ne (by omega) (up_ne (by omega) (up_ne (by omega) (by assumption)))) | exact up_ne (by omega) (up_ne (by omega) (up_ne (by omega) (up_ne (by omega) (up_eq rfl)))))); (focus decide); (focus rfl)) | ((with_reducible apply hb_dr); (focus (first | assumption | exact up_eq rfl | exact up_ne (by omega) (by assumption) | exact up_ne (by omega) (up_eq rfl) | exact up_ne (by omega) (up_ne (by omega) (by assumption)) | exact up_ne (by omega) (up_ne (by omega) (up_eq rfl)) | exact up_ne (by omega) (up_ne (by omega) (up_ne (by omega) (by assumption))) | exact up_ne (by omega) (up_ne (by omega) (up_ne (by omega) (up_eq rfl))) | exact up_ne (by omega) (up_ne (by omega) (up_ne (by omega) (up_ne (by omega) (by assumption)))) | exact up_ne (by omega) (up_ne (by omega) (up_ne (by omega) (up_ne (by omega) (up_eq rfl)))))); (focus decide)) | ((with_reducible apply hb_aI); (focus (first | assumption | exact up_eq rfl | exact up_ne (by omega) (by assumption) | exact up_ne (by omega) (up_eq rfl) | exact up_ne (by omega) (up_ne (by omega) (by assumption)) | exact up_ne (by omega) (up_ne (by omega) (up_eq rfl)) | exact up_ne (by omega) (up_ne (by omega) (up_ne (by omega) (by assumption))) | exact up_ne (by omega) (up_ne (by omega) (up_ne (by omega) (up_eq rfl))) | exact up_ne (by omega) (up_ne (by omega) (up_ne (by omega) (up_ne (by omega) (by assumption)))) | exact up_ne (by omega) (up_ne (by omega) (up_ne (by omega) (up_ne (by omega) (up_eq rfl)))))); (focus (first | assumption | (with_reducible exact nI_in (by omega) (by decide)) | (with_reducible exact ix_zero (by omega))))) | ((with_reducible apply hb_sI); (focus (first | assumption | exact up_eq rfl | exact up_ne (by omega) (by assumption) | exact up_ne (by omega) (up_eq rfl) | exact up_ne (by omega) (up_ne (by omega) (by assumption)) | exact up_ne (by omega) (up_ne (by omega) (up_eq rfl)) | exact up_ne (by omega) (up_ne (by omega) (up_ne (by omega) (by assumption))) | exact up_ne (by omega) (up_ne (by omega) (up_ne (by omega) (up_eq rfl))) | exact up_ne (by omega) (up_ne (by omega) (up_ne (by omega) (up_ne (by omega) (by assumption)))) | exact up_ne (by omega) (up_ne (by omega) (up_ne (by omega) (up_ne (by omega) (up_eq rfl)))))); (focus (first | assumption | (with_reducible exact nI_in (by omega) (by decide)) | (with_reducible exact ix_zero (by omega))))) | ((with_reducible apply hb_aR); (focus (first | assumption | exact up_eq rfl | exact up_ne (by omega) (by assumption) | exact up_ne (by omega) (up_eq rfl) | exact up_ne (by omega) (up_ne (by omega) (by assumption)) | exact up_ne (by omega) (up_ne (by omega) (up_eq rfl)) | exact up_ne (by omega) (up_ne (by omega) (up_ne (by omega) (by assumption))) | exact up_ne (by omega) (up_ne (by omega) (up_ne (by omega) (up_eq rfl))) | exact up_ne (by omega) (up_ne (by omega) (up_ne (by omega) (up_ne (by omega) (by assumption)))) | exact up_ne (by omega) (up_ne (by omega) (up_ne (by omega) (up_ne (by omega) (up_eq rfl)))))); (focus (first | assumption | (with_reducible exact nI_in (by omega) (by decide)) | (with_reducible exact ix_zero (by omega))))) | ((with_reducible apply hb_sR); (focus (first | assumption | exact up_eq rfl | exact up_ne (by omega) (by assumption) | exact up_ne (by omega) (up_eq rfl) | exact up_ne (by omega) (up_ne (by omega) (by assumption)) | exact up_ne (by omega) (up_ne (by omega) (up_eq rfl)) | exact up_ne (by omega) (up_ne (by omega) (up_ne (by omega) (by assumption))) | exact up_ne (by omega) (up_ne (by omega) (up_ne (by omega) (up_eq rfl))) | exact up_ne (by omega) (up_ne (by omega) (up_ne (by omega) (up_ne (by omega) (by assumption)))) | exact up_ne (by omega) (up_ne (by omega) (up_ne (by omega) (up_ne (by omega) (up_eq rfl)))))); (focus (first | assumption | (with_reducible exact nI_in (by omega) (by decide)) | (with_reducible exact ix_zero (by omega))))) | ((with_reducible apply hb_aL); (focus (first | assumption | exact up_eq rfl | exact up_ne (by omega) (by assumption) | exact up_ne (by omega) (up_eq rfl) | exact up_ne (by omega) (up_ne (by omega) (by assumption)) | exact up_ne (by omega) (up_ne (by omega) (up_eq rfl)) | exact up_ne (by omega) (up_ne (by omega) (up_ne (by omega) (by assumption))) | exact up_ne (by omega) (up_ne (by omega) (up_ne (by omega) (up_eq rfl))) | exact up_ne (by omega) (up_ne (by omega) (up_ne (by omega) (up_ne (by omega) (by assumption)))) | exact up_ne (by omega) (up_ne (by omega) (up_ne (by omega) (up_ne (by omega) (up_eq rfl)))))); (focus (first | assumption | (with_reducible exact nI_in (by omega) (by decide)) | (with_reducible exact ix_zero (by omega))))) | ((with_reducible apply hb_sL); (focus (first | assumption | exact up_eq rfl | exact up_ne (by omega) (by assumption) | exact up_ne (by omega) (up_eq rfl) | exact up_ne (by omega) (up_ne (by omega) (by assumption)) | exact up_ne (by omega) (up_ne (by omega) (up_eq rfl)) | exact up_ne (by omega) (up_ne (by omega) (up_ne (by omega) (by assumption))) | exact up_ne (by omega) (up_ne (by omega) (up_ne (by omega) (up_eq rfl))) | exact up_ne (by omega) (up_ne (by omega) (up_ne (by omega) (up_ne (by omega) (by assumption)))) | exact up_ne (by omega) (up_ne (by omega) (up_ne (by omega) (up_ne (by omega) (up_eq rfl)))))); (focus (first | assumption | (with_reducible exact nI_in (by omega) (by decide)) | (with_reducible exact ix_zero (by omega))))) | ((with_reducible apply hb_aF); (focus (first | assumption | exact up_eq rfl | exact up_ne (by omega) (by assumption) | exact up_ne (by omega) (up_eq rfl) | exact up_ne (by omega) (up_ne (by omega) (by assumption)) | exact up_ne (by omega) (up_ne (by omega) (up_eq rfl)) | exact up_ne (by omega) (up_ne (by omega) (up_ne (by omega) (by assumption))) | exact up_ne (by omega) (up_ne (by omega) (up_ne (by omega) (up_eq rfl))) | exact up_ne (by omega) (up_ne (by omega) (up_ne (by omega) (up_ne (by omega) (by assumption)))) | exact up_ne (by omega) (up_ne (by omega) (up_ne (by omega) (up_ne (by omega) (up_eq rfl)))))); (focus (first | assumption | (with_reducible exact nI_in (by omega) (by decide)) | (with_reducible exact ix_zero (by omega))))) | ((with_reducible apply hb_sF); (focus (first | assumption | exact up_eq rfl | exact up_ne (by omega) (by assumption) | exact up_ne (by omega) (up_eq rfl) | exact up_ne (by omega) (up_ne (by omega) (by assumption)) | exact up_ne (by omega) (up_ne (by omega) (up_eq rfl)) | exact up_ne (by omega) (up_ne (by omega) (up_ne (by omega) (by assumption))) | exact up_ne (by omega) (up_ne (by omega) (up_ne (by omega) (up_eq rfl))) | exact up_ne (by omega) (up_ne (by omega) (up_ne (by omega) (up_ne (by omega) (by assumption)))) | exact up_ne (by omega) (up_ne (by omega) (up_ne (by omega) (up_ne (by omega) (up_eq rfl)))))); (focus (first | assumption | (with_reducible exact nI_in (by omega) (by decide)) | (with_reducible exact ix_zero (by omega))))) | ((with_reducible apply hb_aD); (focus (first | assumption | exact up_eq rfl | exact up_ne (by omega) (by assumption) | exact up_ne (by omega) (up_eq rfl) | exact up_ne (by omega) (up_ne (by omega) (by assumption)) | exact up_ne (by omega) (up_ne (by omega) (up_eq rfl)) | exact up_ne (by omega) (up_ne (by omega) (up_ne (by omega) (by assumption))) | exact up_ne (by omega) (up_ne (by omega) (up_ne (by omega) (up_eq rfl))) | exact up_ne (by omega) (up_ne (by omega) (up_ne (by omega) (up_ne (by omega) (by assumption)))) | exact up_ne (by omega) (up_ne (by omega) (up_ne (by omega) (up_ne (by omega) (up_eq rfl)))))); (focus (first | assumption | (with_reducible exact nI_in (by omega) (by decide)) | (with_reducible exact ix_zero (by omega))))) | ((with_reducible apply hb_sD); (focus (first | assumption | exact up_eq rfl | exact up_ne (by omega) (by assumption) | exact up_ne (by omega) (up_eq rfl) | exact up_ne (by omega) (up_ne (by omega) (by assumption)) | exact up_ne (by omega) (up_ne (by omega) (up_eq rfl)) | exact up_ne (by omega) (up_ne (by omega) (up_ne (by omega) (by assumption))) | exact up_ne (by omega) (up_ne (by omega) (up_ne (by omega) (up_eq rfl))) | exact up_ne (by omega) (up_ne (by omega) (up_ne (by omega) (up_ne (by omega) (by assumption)))) | exact up_ne (by omega) (up_ne (by omega) (up_ne (by omega) (up_ne (by omega) (up_eq rfl)))))); (focus (first | assumption | (with_reducible exact nI_in (by omega) (by decide)) | (with_reducible exact ix_zero (by omega))))) | ((with_reducible apply hb_pV); (focus (first | assumption | exact up_eq rfl | exact up_ne (by omega) (by assumption) | exact up_ne (by omega) (up_eq rfl) | exact up_ne (by omega) (up_ne (by omega) (by assumption)) | exact up_ne (by omega) (up_ne (by omega) (up_eq rfl)) | exact up_ne (by omega) (up_ne (by omega) (up_ne (by omega) (by assumption))) | exact up_ne (by omega) (up_ne (by omega) (up_ne (by omega) (up_eq rfl))) | exact up_ne (by omega) (up_ne (by omega) (up_ne (by omega) (up_ne (by omega) (by assumption)))) | exact up_ne (by omega) (up_ne (by omega) (up_ne (by omega) (up_ne (by omega) (up_eq rfl)))))); (focus decide); (focus simp))))
    refine hb_ck n2 ?_
    refine hb_rt ?_
    rw [hct, hsz]
    refine hr_loop (σ := Int32) (fun k s => l_X11_table_63 am (nI t) (nI c) (nI st) (nI (en st)) _ k s) (fun rec s => b_X11_table_63 am (nI t) (nI c) (nI st) (nI (en st)) rec _ s) (fun k s => rfl) (en st) (fun k s w => s = nI k ∧ w.2 = ws.2 ∧ (∀ q, (q < am + 16 ∨ am + 19 ≤ q) → w.1 q = ws.1 q) ∧ w.1 (am + 16) = some (cI 4 (upd a t (nI c))) ∧ w.1 (am + 17) = some (cI 4 (upd b t (nI st))) ∧ ∃ e2 : Nat → UInt32, w.1 (am + 18) = some (cF 1028 e2) ∧ (∀ j, j < k → e2 (257 * t + j) = TE (vl c) st j) ∧ ∀ q, (∀ j, j < 257 → q ≠ 257 * t + j) → e2 q = e q) ?_ ?_ (en st) FU 0 0 _ (by unfold FU; omega) (by omega) ⟨rfl, rfl, fun q hq => up_ne (by omega) (up_ne (by omega) rfl), up_ne (by omega) (up_eq rfl), up_eq rfl, e, up_ne (by omega) (up_ne (by omega) g3), fun j h => absurd h (Nat.not_lt_zero _), fun q _ => rfl⟩
    · intro k s w rec hk hI hrec
      obtain ⟨rfl, w1, w2, w3, w4, e2, w5, w6, w7⟩ := hI
      have hmw : MO w.1 am nc kn := (w2 am (by omega)).trans hm
      have hmw0 := hmw
      unfold MO at hmw0
      have h7w : w.1 (am + 7) = _ := (w2 (am + 7) (by omega)).trans g7
      have hks : k * st < 2 ^ 31 := by
        have : k * st ≤ 257 * 256 := Nat.mul_le_mul (by omega) (by omega)
        omega
      have h90 : Hr (j_X11_table_90 rec (rt (nI (en st))) am (nI t) (nI c) (nI st) (nI (en st)) (nI k) (nI (min (k * st) 4095))) w P := by
        unfold j_X11_table_90
        (repeat (first | (with_reducible refine hb_rt ?_) | ((with_reducible apply hb_gRs); (focus (first | assumption | exact up_eq rfl | exact up_ne (by omega) (by assumption) | exact up_ne (by omega) (up_eq rfl) | exact up_ne (by omega) (up_ne (by omega) (by assumption)) | exact up_ne (by omega) (up_ne (by omega) (up_eq rfl)) | exact up_ne (by omega) (up_ne (by omega) (up_ne (by omega) (by assumption))) | exact up_ne (by omega) (up_ne (by omega) (up_ne (by omega) (up_eq rfl))) | exact up_ne (by omega) (up_ne (by omega) (up_ne (by omega) (up_ne (by omega) (by assumption)))) | exact up_ne (by omega) (up_ne (by omega) (up_ne (by omega) (up_ne (by omega) (up_eq rfl)))))); (focus decide); (focus rfl)) | ((with_reducible apply hb_gI); (focus (first | assumption | exact up_eq rfl | exact up_ne (by omega) (by assumption) | exact up_ne (by omega) (up_eq rfl) | exact up_ne (by omega) (up_ne (by omega) (by assumption)) | exact up_ne (by omega) (up_ne (by omega) (up_eq rfl)) | exact up_ne (by omega) (up_ne (by omega) (up_ne (by omega) (by assumption))) | exact up_ne (by omega) (up_ne (by omega) (up_ne (by omega) (up_eq rfl))) | exact up_ne (by omega) (up_ne (by omega) (up_ne (by omega) (up_ne (by omega) (by assumption)))) | exact up_ne (by omega) (up_ne (by omega) (up_ne (by omega) (up_ne (by omega) (up_eq rfl)))))); (focus decide); (focus rfl)) | ((with_reducible apply hb_gRn); (focus (first | assumption | exact up_eq rfl | exact up_ne (by omega) (by assumption) | exact up_ne (by omega) (up_eq rfl) | exact up_ne (by omega) (up_ne (by omega) (by assumption)) | exact up_ne (by omega) (up_ne (by omega) (up_eq rfl)) | exact up_ne (by omega) (up_ne (by omega) (up_ne (by omega) (by assumption))) | exact up_ne (by omega) (up_ne (by omega) (up_ne (by omega) (up_eq rfl))) | exact up_ne (by omega) (up_ne (by omega) (up_ne (by omega) (up_ne (by omega) (by assumption)))) | exact up_ne (by omega) (up_ne (by omega) (up_ne (by omega) (up_ne (by omega) (up_eq rfl)))))); (focus decide); (focus rfl)) | ((with_reducible apply hb_gL); (focus (first | assumption | exact up_eq rfl | exact up_ne (by omega) (by assumption) | exact up_ne (by omega) (up_eq rfl) | exact up_ne (by omega) (up_ne (by omega) (by assumption)) | exact up_ne (by omega) (up_ne (by omega) (up_eq rfl)) | exact up_ne (by omega) (up_ne (by omega) (up_ne (by omega) (by assumption))) | exact up_ne (by omega) (up_ne (by omega) (up_ne (by omega) (up_eq rfl))) | exact up_ne (by omega) (up_ne (by omega) (up_ne (by omega) (up_ne (by omega) (by assumption)))) | exact up_ne (by omega) (up_ne (by omega) (up_ne (by omega) (up_ne (by omega) (up_eq rfl)))))); (focus decide); (focus rfl)) | ((with_reducible apply hb_gD); (focus (first | assumption | exact up_eq rfl | exact up_ne (by omega) (by assumption) | exact up_ne (by omega) (up_eq rfl) | exact up_ne (by omega) (up_ne (by omega) (by assumption)) | exact up_ne (by omega) (up_ne (by omega) (up_eq rfl)) | exact up_ne (by omega) (up_ne (by omega) (up_ne (by omega) (by assumption))) | exact up_ne (by omega) (up_ne (by omega) (up_ne (by omega) (up_eq rfl))) | exact up_ne (by omega) (up_ne (by omega) (up_ne (by omega) (up_ne (by omega) (by assumption)))) | exact up_ne (by omega) (up_ne (by omega) (up_ne (by omega) (up_ne (by omega) (up_eq rfl)))))); (focus decide); (focus rfl)) | ((with_reducible apply hb_gR); (focus (first | assumption | exact up_eq rfl | exact up_ne (by omega) (by assumption) | exact up_ne (by omega) (up_eq rfl) | exact up_ne (by omega) (up_ne (by omega) (by assumption)) | exact up_ne (by omega) (up_ne (by omega) (up_eq rfl)) | exact up_ne (by omega) (up_ne (by omega) (up_ne (by omega) (by assumption))) | exact up_ne (by omega) (up_ne (by omega) (up_ne (by omega) (up_eq rfl))) | exact up_ne (by omega) (up_ne (by omega) (up_ne (by omega) (up_ne (by omega) (by assumption)))) | exact up_ne (by omega) (up_ne (by omega) (up_ne (by omega) (up_ne (by omega) (up_eq rfl)))))); (focus decide); (focus rfl)) | ((with_reducible apply hb_dr); (focus (first | assumption | exact up_eq rfl | exact up_ne (by omega) (by assumption) | exact up_ne (by omega) (up_eq rfl) | exact up_ne (by omega) (up_ne (by omega) (by assumption)) | exact up_ne (by omega) (up_ne (by omega) (up_eq rfl)) | exact up_ne (by omega) (up_ne (by omega) (up_ne (by omega) (by assumption))) | exact up_ne (by omega) (up_ne (by omega) (up_ne (by omega) (up_eq rfl))) | exact up_ne (by omega) (up_ne (by omega) (up_ne (by omega) (up_ne (by omega) (by assumption)))) | exact up_ne (by omega) (up_ne (by omega) (up_ne (by omega) (up_ne (by omega) (up_eq rfl)))))); (focus decide)) | ((with_reducible apply hb_aI); (focus (first | assumption | exact up_eq rfl | exact up_ne (by omega) (by assumption) | exact up_ne (by omega) (up_eq rfl) | exact up_ne (by omega) (up_ne (by omega) (by assumption)) | exact up_ne (by omega) (up_ne (by omega) (up_eq rfl)) | exact up_ne (by omega) (up_ne (by omega) (up_ne (by omega) (by assumption))) | exact up_ne (by omega) (up_ne (by omega) (up_ne (by omega) (up_eq rfl))) | exact up_ne (by omega) (up_ne (by omega) (up_ne (by omega) (up_ne (by omega) (by assumption)))) | exact up_ne (by omega) (up_ne (by omega) (up_ne (by omega) (up_ne (by omega) (up_eq rfl)))))); (focus (first | assumption | (with_reducible exact nI_in (by omega) (by decide)) | (with_reducible exact ix_zero (by omega))))) | ((with_reducible apply hb_sI); (focus (first | assumption | exact up_eq rfl | exact up_ne (by omega) (by assumption) | exact up_ne (by omega) (up_eq rfl) | exact up_ne (by omega) (up_ne (by omega) (by assumption)) | exact up_ne (by omega) (up_ne (by omega) (up_eq rfl)) | exact up_ne (by omega) (up_ne (by omega) (up_ne (by omega) (by assumption))) | exact up_ne (by omega) (up_ne (by omega) (up_ne (by omega) (up_eq rfl))) | exact up_ne (by omega) (up_ne (by omega) (up_ne (by omega) (up_ne (by omega) (by assumption)))) | exact up_ne (by omega) (up_ne (by omega) (up_ne (by omega) (up_ne (by omega) (up_eq rfl)))))); (focus (first | assumption | (with_reducible exact nI_in (by omega) (by decide)) | (with_reducible exact ix_zero (by omega))))) | ((with_reducible apply hb_aR); (focus (first | assumption | exact up_eq rfl | exact up_ne (by omega) (by assumption) | exact up_ne (by omega) (up_eq rfl) | exact up_ne (by omega) (up_ne (by omega) (by assumption)) | exact up_ne (by omega) (up_ne (by omega) (up_eq rfl)) | exact up_ne (by omega) (up_ne (by omega) (up_ne (by omega) (by assumption))) | exact up_ne (by omega) (up_ne (by omega) (up_ne (by omega) (up_eq rfl))) | exact up_ne (by omega) (up_ne (by omega) (up_ne (by omega) (up_ne (by omega) (by assumption)))) | exact up_ne (by omega) (up_ne (by omega) (up_ne (by omega) (up_ne (by omega) (up_eq rfl)))))); (focus (first | assumption | (with_reducible exact nI_in (by omega) (by decide)) | (with_reducible exact ix_zero (by omega))))) | ((with_reducible apply hb_sR); (focus (first | assumption | exact up_eq rfl | exact up_ne (by omega) (by assumption) | exact up_ne (by omega) (up_eq rfl) | exact up_ne (by omega) (up_ne (by omega) (by assumption)) | exact up_ne (by omega) (up_ne (by omega) (up_eq rfl)) | exact up_ne (by omega) (up_ne (by omega) (up_ne (by omega) (by assumption))) | exact up_ne (by omega) (up_ne (by omega) (up_ne (by omega) (up_eq rfl))) | exact up_ne (by omega) (up_ne (by omega) (up_ne (by omega) (up_ne (by omega) (by assumption)))) | exact up_ne (by omega) (up_ne (by omega) (up_ne (by omega) (up_ne (by omega) (up_eq rfl)))))); (focus (first | assumption | (with_reducible exact nI_in (by omega) (by decide)) | (with_reducible exact ix_zero (by omega))))) | ((with_reducible apply hb_aL); (focus (first | assumption | exact up_eq rfl | exact up_ne (by omega) (by assumption) | exact up_ne (by omega) (up_eq rfl) | exact up_ne (by omega) (up_ne (by omega) (by assumption)) | exact up_ne (by omega) (up_ne (by omega) (up_eq rfl)) | exact up_ne (by omega) (up_ne (by omega) (up_ne (by omega) (by assumption))) | exact up_ne (by omega) (up_ne (by omega) (up_ne (by omega) (up_eq rfl))) | exact up_ne (by omega) (up_ne (by omega) (up_ne (by omega) (up_ne (by omega) (by assumption)))) | exact up_ne (by omega) (up_ne (by omega) (up_ne (by omega) (up_ne (by omega) (up_eq rfl)))))); (focus (first | assumption | (with_reducible exact nI_in (by omega) (by decide)) | (with_reducible exact ix_zero (by omega))))) | ((with_reducible apply hb_sL); (focus (first | assumption | exact up_eq rfl | exact up_ne (by omega) (by assumption) | exact up_ne (by omega) (up_eq rfl) | exact up_ne (by omega) (up_ne (by omega) (by assumption)) | exact up_ne (by omega) (up_ne (by omega) (up_eq rfl)) | exact up_ne (by omega) (up_ne (by omega) (up_ne (by omega) (by assumption))) | exact up_ne (by omega) (up_ne (by omega) (up_ne (by omega) (up_eq rfl))) | exact up_ne (by omega) (up_ne (by omega) (up_ne (by omega) (up_ne (by omega) (by assumption)))) | exact up_ne (by omega) (up_ne (by omega) (up_ne (by omega) (up_ne (by omega) (up_eq rfl)))))); (focus (first | assumption | (with_reducible exact nI_in (by omega) (by decide)) | (with_reducible exact ix_zero (by omega))))) | ((with_reducible apply hb_aF); (focus (first | assumption | exact up_eq rfl | exact up_ne (by omega) (by assumption) | exact up_ne (by omega) (up_eq rfl) | exact up_ne (by omega) (up_ne (by omega) (by assumption)) | exact up_ne (by omega) (up_ne (by omega) (up_eq rfl)) | exact up_ne (by omega) (up_ne (by omega) (up_ne (by omega) (by assumption))) | exact up_ne (by omega) (up_ne (by omega) (up_ne (by omega) (up_eq rfl))) | exact up_ne (by omega) (up_ne (by omega) (up_ne (by omega) (up_ne (by omega) (by assumption)))) | exact up_ne (by omega) (up_ne (by omega) (up_ne (by omega) (up_ne (by omega) (up_eq rfl)))))); (focus (first | assumption | (with_reducible exact nI_in (by omega) (by decide)) | (with_reducible exact ix_zero (by omega))))) | ((with_reducible apply hb_sF); (focus (first | assumption | exact up_eq rfl | exact up_ne (by omega) (by assumption) | exact up_ne (by omega) (up_eq rfl) | exact up_ne (by omega) (up_ne (by omega) (by assumption)) | exact up_ne (by omega) (up_ne (by omega) (up_eq rfl)) | exact up_ne (by omega) (up_ne (by omega) (up_ne (by omega) (by assumption))) | exact up_ne (by omega) (up_ne (by omega) (up_ne (by omega) (up_eq rfl))) | exact up_ne (by omega) (up_ne (by omega) (up_ne (by omega) (up_ne (by omega) (by assumption)))) | exact up_ne (by omega) (up_ne (by omega) (up_ne (by omega) (up_ne (by omega) (up_eq rfl)))))); (focus (first | assumption | (with_reducible exact nI_in (by omega) (by decide)) | (with_reducible exact ix_zero (by omega))))) | ((with_reducible apply hb_aD); (focus (first | assumption | exact up_eq rfl | exact up_ne (by omega) (by assumption) | exact up_ne (by omega) (up_eq rfl) | exact up_ne (by omega) (up_ne (by omega) (by assumption)) | exact up_ne (by omega) (up_ne (by omega) (up_eq rfl)) | exact up_ne (by omega) (up_ne (by omega) (up_ne (by omega) (by assumption))) | exact up_ne (by omega) (up_ne (by omega) (up_ne (by omega) (up_eq rfl))) | exact up_ne (by omega) (up_ne (by omega) (up_ne (by omega) (up_ne (by omega) (by assumption)))) | exact up_ne (by omega) (up_ne (by omega) (up_ne (by omega) (up_ne (by omega) (up_eq rfl)))))); (focus (first | assumption | (with_reducible exact nI_in (by omega) (by decide)) | (with_reducible exact ix_zero (by omega))))) | ((with_reducible apply hb_sD); (focus (first | assumption | exact up_eq rfl | exact up_ne (by omega) (by assumption) | exact up_ne (by omega) (up_eq rfl) | exact up_ne (by omega) (up_ne (by omega) (by assumption)) | exact up_ne (by omega) (up_ne (by omega) (up_eq rfl)) | exact up_ne (by omega) (up_ne (by omega) (up_ne (by omega) (by assumption))) | exact up_ne (by omega) (up_ne (by omega) (up_ne (by omega) (up_eq rfl))) | exact up_ne (by omega) (up_ne (by omega) (up_ne (by omega) (up_ne (by omega) (by assumption)))) | exact up_ne (by omega) (up_ne (by omega) (up_ne (by omega) (up_ne (by omega) (up_eq rfl)))))); (focus (first | assumption | (with_reducible exact nI_in (by omega) (by decide)) | (with_reducible exact ix_zero (by omega))))) | ((with_reducible apply hb_pV); (focus (first | assumption | exact up_eq rfl | exact up_ne (by omega) (by assumption) | exact up_ne (by omega) (up_eq rfl) | exact up_ne (by omega) (up_ne (by omega) (by assumption)) | exact up_ne (by omega) (up_ne (by omega) (up_eq rfl)) | exact up_ne (by omega) (up_ne (by omega) (up_ne (by omega) (by assumption))) | exact up_ne (by omega) (up_ne (by omega) (up_ne (by omega) (up_eq rfl))) | exact up_ne (by omega) (up_ne (by omega) (up_ne (by omega) (up_ne (by omega) (by assumption)))) | exact up_ne (by omega) (up_ne (by omega) (up_ne (by omega) (up_ne (by omega) (up_eq rfl)))))); (focus decide); (focus simp))))
        refine q_of hmw h7w (by omega) (show min (k * st) 4095 < 4096 by omega) ?_
        rw [(hg7 c hcn).2.2 _ (by omega)]
        refine hb_ck ((te_m (v := vl c) (st := st) (k := k)).nn (by decide)) ?_
        refine hb_rt ?_
        rw [ix257]
        refine hb_sF w5 (nI_in (by omega) (by decide)) ?_
        rw [nI_clamp (by omega), nI_1]
        refine hrec _ _ ⟨rfl, w1, fun q hq => up_ne (by omega) (w2 q hq), up_ne (by omega) w3, up_ne (by omega) w4, _, up_eq rfl, fun j hj => ?_, fun q hq => ?_⟩
        · by_cases ej : j = k
          · rw [ej, vu_s]
            rfl
          · rw [vu_n (by omega)]
            exact w6 j (by omega)
        · rw [vu_n (hq k (by omega))]
          exact w7 q hq
      unfold b_X11_table_63
      refine hr_f (nI_ge hk (by omega)) ?_
      rw [pk_mul]
      by_cases hc2 : k * st ≤ 4095
      · refine hr_t (nI_le (a := k * st) (b := 4095) hc2 (by decide)) ?_
        rw [show min (k * st) 4095 = k * st by omega] at h90
        exact h90
      · refine hr_f (nI_ge (a := 4095) (b := k * st) (by omega) hks) ?_
        rw [show min (k * st) 4095 = 4095 by omega] at h90
        exact h90
    · intro s w rec hI
      obtain ⟨rfl, w1, w2, w3, w4, e2, w5, w6, w7⟩ := hI
      unfold b_X11_table_63
      refine hr_t (Int32.le_refl _) (hr_rt (hP w ⟨_, _, e2, w3, w4, w5, fun q hq => ?_⟩ ⟨w2, w1⟩))
      obtain ⟨v1, v2⟩ := hg q hq
      by_cases eq : q = t
      · subst eq
        rw [pk_us, pk_us, u1_s, u1_s]
        refine ⟨rfl, fun c2 e3 => ?_⟩
        cases e3
        exact ⟨rfl, w6⟩
      · rw [pk_un eq, pk_un eq, u1_n eq, u1_n eq]
        refine ⟨v1, fun c2 e3 => ⟨(v2 c2 e3).1, fun k hk => ?_⟩⟩
        have := (en_b (hti q c2 hq e3).2).1
        rw [w7 _ (fun j hj => by omega)]
        exact (v2 c2 e3).2 k hk
  unfold F_X11_table
  refine qm_isFour (fun t ht et => ?_) (fun hno => hr_t rfl (hr_rt (h0 (fun t c st hk => no_ix hno hk.1 (by decide) hk.2.1))))
  refine hr_f (by decide) ?_
  refine hb_dr hm0 (by decide) ?_
  refine qm_isCurve hm hnc (fun c hcn ec => ?_) (fun hno => hr_t rfl (hr_rt (h0 (fun t c st hk => no_ix hno hk.2.2.1 (by omega) hk.2.2.2.1))))
  refine hr_f (by decide) ?_
  refine hr_br (fun b => ?_) (fun b1 => ?_)
  · rw [et, ec, b]
    exact hpart t c 16 ⟨ht, et, hcn, ec, Or.inl rfl, b⟩
  · refine hr_br (fun b => ?_) (fun b2 => ?_)
    · rw [et, ec, b]
      exact hpart t c 64 ⟨ht, et, hcn, ec, Or.inr (Or.inl rfl), b⟩
    · refine hr_br (fun b => ?_) (fun b3 => ?_)
      · rw [et, ec, b]
        exact hpart t c 256 ⟨ht, et, hcn, ec, Or.inr (Or.inr rfl), b⟩
      · refine hr_rt (h0 (fun t c st hk => ?_))
        obtain ⟨-, -, -, -, h, h'⟩ := hk
        rcases h with rfl | rfl | rfl
        · exact b1 h'
        · exact b2 h'
        · exact b3 h'
theorem qm_isTable {β : Type} {x : Int32} {K : Int32 → St β} {P : β → WS → Prop} (hm : MO ws.1 am nc kn) (hnc : nc ≤ 60) (htm : TM ws.1 am vl tcu tst) (hti : TI nc tcu tst) (h1 : ∀ t c, t < 4 → x = nI t → tcu t = some c → Hr (K 1) ws P) (h0 : ((x < 0 ∨ nI 4 ≤ x) ∨ ∃ t, t < 4 ∧ x = nI t ∧ tcu t = none) → Hr (K 0) ws P) : Hr (bd (F_X11_isTable am x) K) ws P := by
  have hm0 := hm
  unfold MO at hm0
  obtain ⟨a, b, e, g1, g2, g3, hg⟩ := htm
  refine hr_bd ?_
  unfold F_X11_isTable
  refine qm_isFour (fun t ht et => ?_) (fun hno => hr_t rfl (hr_rt (h0 (Or.inl hno))))
  have k1 := fun c => h1 t c ht et
  have k0 : tcu t = none → Hr (K 0) ws P := fun h => h0 (Or.inr ⟨t, ht, et, h⟩)
  subst et
  refine hr_f (by decide) ?_
  (repeat (first | (with_reducible refine hb_rt ?_) | ((with_reducible apply hb_gRs); (focus (first | assumption | exact up_eq rfl | exact up_ne (by omega) (by assumption) | exact up_ne (by omega) (up_eq rfl) | exact up_ne (by omega) (up_ne (by omega) (by assumption)) | exact up_ne (by omega) (up_ne (by omega) (up_eq rfl)) | exact up_ne (by omega) (up_ne (by omega) (up_ne (by omega) (by assumption))) | exact up_ne (by omega) (up_ne (by omega) (up_ne (by omega) (up_eq rfl))) | exact up_ne (by omega) (up_ne (by omega) (up_ne (by omega) (up_ne (by omega) (by assumption)))) | exact up_ne (by omega) (up_ne (by omega) (up_ne (by omega) (up_ne (by omega) (up_eq rfl)))))); (focus decide); (focus rfl)) | ((with_reducible apply hb_gI); (focus (first | assumption | exact up_eq rfl | exact up_ne (by omega) (by assumption) | exact up_ne (by omega) (up_eq rfl) | exact up_ne (by omega) (up_ne (by omega) (by assumption)) | exact up_ne (by omega) (up_ne (by omega) (up_eq rfl)) | exact up_ne (by omega) (up_ne (by omega) (up_ne (by omega) (by assumption))) | exact up_ne (by omega) (up_ne (by omega) (up_ne (by omega) (up_eq rfl))) | exact up_ne (by omega) (up_ne (by omega) (up_ne (by omega) (up_ne (by omega) (by assumption)))) | exact up_ne (by omega) (up_ne (by omega) (up_ne (by omega) (up_ne (by omega) (up_eq rfl)))))); (focus decide); (focus rfl)) | ((with_reducible apply hb_gRn); (focus (first | assumption | exact up_eq rfl | exact up_ne (by omega) (by assumption) | exact up_ne (by omega) (up_eq rfl) | exact up_ne (by omega) (up_ne (by omega) (by assumption)) | exact up_ne (by omega) (up_ne (by omega) (up_eq rfl)) | exact up_ne (by omega) (up_ne (by omega) (up_ne (by omega) (by assumption))) | exact up_ne (by omega) (up_ne (by omega) (up_ne (by omega) (up_eq rfl))) | exact up_ne (by omega) (up_ne (by omega) (up_ne (by omega) (up_ne (by omega) (by assumption)))) | exact up_ne (by omega) (up_ne (by omega) (up_ne (by omega) (up_ne (by omega) (up_eq rfl)))))); (focus decide); (focus rfl)) | ((with_reducible apply hb_gL); (focus (first | assumption | exact up_eq rfl | exact up_ne (by omega) (by assumption) | exact up_ne (by omega) (up_eq rfl) | exact up_ne (by omega) (up_ne (by omega) (by assumption)) | exact up_ne (by omega) (up_ne (by omega) (up_eq rfl)) | exact up_ne (by omega) (up_ne (by omega) (up_ne (by omega) (by assumption))) | exact up_ne (by omega) (up_ne (by omega) (up_ne (by omega) (up_eq rfl))) | exact up_ne (by omega) (up_ne (by omega) (up_ne (by omega) (up_ne (by omega) (by assumption)))) | exact up_ne (by omega) (up_ne (by omega) (up_ne (by omega) (up_ne (by omega) (up_eq rfl)))))); (focus decide); (focus rfl)) | ((with_reducible apply hb_gD); (focus (first | assumption | exact up_eq rfl | exact up_ne (by omega) (by assumption) | exact up_ne (by omega) (up_eq rfl) | exact up_ne (by omega) (up_ne (by omega) (by assumption)) | exact up_ne (by omega) (up_ne (by omega) (up_eq rfl)) | exact up_ne (by omega) (up_ne (by omega) (up_ne (by omega) (by assumption))) | exact up_ne (by omega) (up_ne (by omega) (up_ne (by omega) (up_eq rfl))) | exact up_ne (by omega) (up_ne (by omega) (up_ne (by omega) (up_ne (by omega) (by assumption)))) | exact up_ne (by omega) (up_ne (by omega) (up_ne (by omega) (up_ne (by omega) (up_eq rfl)))))); (focus decide); (focus rfl)) | ((with_reducible apply hb_gR); (focus (first | assumption | exact up_eq rfl | exact up_ne (by omega) (by assumption) | exact up_ne (by omega) (up_eq rfl) | exact up_ne (by omega) (up_ne (by omega) (by assumption)) | exact up_ne (by omega) (up_ne (by omega) (up_eq rfl)) | exact up_ne (by omega) (up_ne (by omega) (up_ne (by omega) (by assumption))) | exact up_ne (by omega) (up_ne (by omega) (up_ne (by omega) (up_eq rfl))) | exact up_ne (by omega) (up_ne (by omega) (up_ne (by omega) (up_ne (by omega) (by assumption)))) | exact up_ne (by omega) (up_ne (by omega) (up_ne (by omega) (up_ne (by omega) (up_eq rfl)))))); (focus decide); (focus rfl)) | ((with_reducible apply hb_dr); (focus (first | assumption | exact up_eq rfl | exact up_ne (by omega) (by assumption) | exact up_ne (by omega) (up_eq rfl) | exact up_ne (by omega) (up_ne (by omega) (by assumption)) | exact up_ne (by omega) (up_ne (by omega) (up_eq rfl)) | exact up_ne (by omega) (up_ne (by omega) (up_ne (by omega) (by assumption))) | exact up_ne (by omega) (up_ne (by omega) (up_ne (by omega) (up_eq rfl))) | exact up_ne (by omega) (up_ne (by omega) (up_ne (by omega) (up_ne (by omega) (by assumption)))) | exact up_ne (by omega) (up_ne (by omega) (up_ne (by omega) (up_ne (by omega) (up_eq rfl)))))); (focus decide)) | ((with_reducible apply hb_aI); (focus (first | assumption | exact up_eq rfl | exact up_ne (by omega) (by assumption) | exact up_ne (by omega) (up_eq rfl) | exact up_ne (by omega) (up_ne (by omega) (by assumption)) | exact up_ne (by omega) (up_ne (by omega) (up_eq rfl)) | exact up_ne (by omega) (up_ne (by omega) (up_ne (by omega) (by assumption))) | exact up_ne (by omega) (up_ne (by omega) (up_ne (by omega) (up_eq rfl))) | exact up_ne (by omega) (up_ne (by omega) (up_ne (by omega) (up_ne (by omega) (by assumption)))) | exact up_ne (by omega) (up_ne (by omega) (up_ne (by omega) (up_ne (by omega) (up_eq rfl)))))); (focus (first | assumption | (with_reducible exact nI_in (by omega) (by decide)) | (with_reducible exact ix_zero (by omega))))) | ((with_reducible apply hb_sI); (focus (first | assumption | exact up_eq rfl | exact up_ne (by omega) (by assumption) | exact up_ne (by omega) (up_eq rfl) | exact up_ne (by omega) (up_ne (by omega) (by assumption)) | exact up_ne (by omega) (up_ne (by omega) (up_eq rfl)) | exact up_ne (by omega) (up_ne (by omega) (up_ne (by omega) (by assumption))) | exact up_ne (by omega) (up_ne (by omega) (up_ne (by omega) (up_eq rfl))) | exact up_ne (by omega) (up_ne (by omega) (up_ne (by omega) (up_ne (by omega) (by assumption)))) | exact up_ne (by omega) (up_ne (by omega) (up_ne (by omega) (up_ne (by omega) (up_eq rfl)))))); (focus (first | assumption | (with_reducible exact nI_in (by omega) (by decide)) | (with_reducible exact ix_zero (by omega))))) | ((with_reducible apply hb_aR); (focus (first | assumption | exact up_eq rfl | exact up_ne (by omega) (by assumption) | exact up_ne (by omega) (up_eq rfl) | exact up_ne (by omega) (up_ne (by omega) (by assumption)) | exact up_ne (by omega) (up_ne (by omega) (up_eq rfl)) | exact up_ne (by omega) (up_ne (by omega) (up_ne (by omega) (by assumption))) | exact up_ne (by omega) (up_ne (by omega) (up_ne (by omega) (up_eq rfl))) | exact up_ne (by omega) (up_ne (by omega) (up_ne (by omega) (up_ne (by omega) (by assumption)))) | exact up_ne (by omega) (up_ne (by omega) (up_ne (by omega) (up_ne (by omega) (up_eq rfl)))))); (focus (first | assumption | (with_reducible exact nI_in (by omega) (by decide)) | (with_reducible exact ix_zero (by omega))))) | ((with_reducible apply hb_sR); (focus (first | assumption | exact up_eq rfl | exact up_ne (by omega) (by assumption) | exact up_ne (by omega) (up_eq rfl) | exact up_ne (by omega) (up_ne (by omega) (by assumption)) | exact up_ne (by omega) (up_ne (by omega) (up_eq rfl)) | exact up_ne (by omega) (up_ne (by omega) (up_ne (by omega) (by assumption))) | exact up_ne (by omega) (up_ne (by omega) (up_ne (by omega) (up_eq rfl))) | exact up_ne (by omega) (up_ne (by omega) (up_ne (by omega) (up_ne (by omega) (by assumption)))) | exact up_ne (by omega) (up_ne (by omega) (up_ne (by omega) (up_ne (by omega) (up_eq rfl)))))); (focus (first | assumption | (with_reducible exact nI_in (by omega) (by decide)) | (with_reducible exact ix_zero (by omega))))) | ((with_reducible apply hb_aL); (focus (first | assumption | exact up_eq rfl | exact up_ne (by omega) (by assumption) | exact up_ne (by omega) (up_eq rfl) | exact up_ne (by omega) (up_ne (by omega) (by assumption)) | exact up_ne (by omega) (up_ne (by omega) (up_eq rfl)) | exact up_ne (by omega) (up_ne (by omega) (up_ne (by omega) (by assumption))) | exact up_ne (by omega) (up_ne (by omega) (up_ne (by omega) (up_eq rfl))) | exact up_ne (by omega) (up_ne (by omega) (up_ne (by omega) (up_ne (by omega) (by assumption)))) | exact up_ne (by omega) (up_ne (by omega) (up_ne (by omega) (up_ne (by omega) (up_eq rfl)))))); (focus (first | assumption | (with_reducible exact nI_in (by omega) (by decide)) | (with_reducible exact ix_zero (by omega))))) | ((with_reducible apply hb_sL); (focus (first | assumption | exact up_eq rfl | exact up_ne (by omega) (by assumption) | exact up_ne (by omega) (up_eq rfl) | exact up_ne (by omega) (up_ne (by omega) (by assumption)) | exact up_ne (by omega) (up_ne (by omega) (up_eq rfl)) | exact up_ne (by omega) (up_ne (by omega) (up_ne (by omega) (by assumption))) | exact up_ne (by omega) (up_ne (by omega) (up_ne (by omega) (up_eq rfl))) | exact up_ne (by omega) (up_ne (by omega) (up_ne (by omega) (up_ne (by omega) (by assumption)))) | exact up_ne (by omega) (up_ne (by omega) (up_ne (by omega) (up_ne (by omega) (up_eq rfl)))))); (focus (first | assumption | (with_reducible exact nI_in (by omega) (by decide)) | (with_reducible exact ix_zero (by omega))))) | ((with_reducible apply hb_aF); (focus (first | assumption | exact up_eq rfl | exact up_ne (by omega) (by assumption) | exact up_ne (by omega) (up_eq rfl) | exact up_ne (by omega) (up_ne (by omega) (by assumption)) | exact up_ne (by omega) (up_ne (by omega) (up_eq rfl)) | exact up_ne (by omega) (up_ne (by omega) (up_ne (by omega) (by assumption))) | exact up_ne (by omega) (up_ne (by omega) (up_ne (by omega) (up_eq rfl))) | exact up_ne (by omega) (up_ne (by omega) (up_ne (by omega) (up_ne (by omega) (by assumption)))) | exact up_ne (by omega) (up_ne (by omega) (up_ne (by omega) (up_ne (by omega) (up_eq rfl)))))); (focus (first | assumption | (with_reducible exact nI_in (by omega) (by decide)) | (with_reducible exact ix_zero (by omega))))) | ((with_reducible apply hb_sF); (focus (first | assumption | exact up_eq rfl | exact up_ne (by omega) (by assumption) | exact up_ne (by omega) (up_eq rfl) | exact up_ne (by omega) (up_ne (by omega) (by assumption)) | exact up_ne (by omega) (up_ne (by omega) (up_eq rfl)) | exact up_ne (by omega) (up_ne (by omega) (up_ne (by omega) (by assumption))) | exact up_ne (by omega) (up_ne (by omega) (up_ne (by omega) (up_eq rfl))) | exact up_ne (by omega) (up_ne (by omega) (up_ne (by omega) (up_ne (by omega) (by assumption)))) | exact up_ne (by omega) (up_ne (by omega) (up_ne (by omega) (up_ne (by omega) (up_eq rfl)))))); (focus (first | assumption | (with_reducible exact nI_in (by omega) (by decide)) | (with_reducible exact ix_zero (by omega))))) | ((with_reducible apply hb_aD); (focus (first | assumption | exact up_eq rfl | exact up_ne (by omega) (by assumption) | exact up_ne (by omega) (up_eq rfl) | exact up_ne (by omega) (up_ne (by omega) (by assumption)) | exact up_ne (by omega) (up_ne (by omega) (up_eq rfl)) | exact up_ne (by omega) (up_ne (by omega) (up_ne (by omega) (by assumption))) | exact up_ne (by omega) (up_ne (by omega) (up_ne (by omega) (up_eq rfl))) | exact up_ne (by omega) (up_ne (by omega) (up_ne (by omega) (up_ne (by omega) (by assumption)))) | exact up_ne (by omega) (up_ne (by omega) (up_ne (by omega) (up_ne (by omega) (up_eq rfl)))))); (focus (first | assumption | (with_reducible exact nI_in (by omega) (by decide)) | (with_reducible exact ix_zero (by omega))))) | ((with_reducible apply hb_sD); (focus (first | assumption | exact up_eq rfl | exact up_ne (by omega) (by assumption) | exact up_ne (by omega) (up_eq rfl) | exact up_ne (by omega) (up_ne (by omega) (by assumption)) | exact up_ne (by omega) (up_ne (by omega) (up_eq rfl)) | exact up_ne (by omega) (up_ne (by omega) (up_ne (by omega) (by assumption))) | exact up_ne (by omega) (up_ne (by omega) (up_ne (by omega) (up_eq rfl))) | exact up_ne (by omega) (up_ne (by omega) (up_ne (by omega) (up_ne (by omega) (by assumption)))) | exact up_ne (by omega) (up_ne (by omega) (up_ne (by omega) (up_ne (by omega) (up_eq rfl)))))); (focus (first | assumption | (with_reducible exact nI_in (by omega) (by decide)) | (with_reducible exact ix_zero (by omega))))) | ((with_reducible apply hb_pV); (focus (first | assumption | exact up_eq rfl | exact up_ne (by omega) (by assumption) | exact up_ne (by omega) (up_eq rfl) | exact up_ne (by omega) (up_ne (by omega) (by assumption)) | exact up_ne (by omega) (up_ne (by omega) (up_eq rfl)) | exact up_ne (by omega) (up_ne (by omega) (up_ne (by omega) (by assumption))) | exact up_ne (by omega) (up_ne (by omega) (up_ne (by omega) (up_eq rfl))) | exact up_ne (by omega) (up_ne (by omega) (up_ne (by omega) (up_ne (by omega) (by assumption)))) | exact up_ne (by omega) (up_ne (by omega) (up_ne (by omega) (up_ne (by omega) (up_eq rfl)))))); (focus decide); (focus simp))))
  rw [nI_clamp (by omega), (hg t ht).1]
  cases hc : tcu t with
  | none => exact hr_t (by decide) (hr_rt (k0 hc))
  | some c => exact hr_f (nI_pos (by have := (hti t c ht hc).1; omega)) (hr_rt (k1 c hc))
theorem m_looked {t c x : Nat} (hm : MO ws.1 am nc kn) (htm : TM ws.1 am vl tcu tst) (hti : TI nc tcu tst) (ht : t < 4) (htc : tcu t = some c) (hx : x < 4096) : Hr (F_X11_looked am (nI t) (nI x)) ws (fun r u => u = ws ∧ r = TL (vl c) (tst t) x) := by
  have hm0 := hm
  unfold MO at hm0
  obtain ⟨a, b, e, g1, g2, g3, hg⟩ := htm
  obtain ⟨v1, v2⟩ := (hg t ht).2 c htc
  have hst := (hti t c ht htc).2
  obtain ⟨n1, n2, n3, n4⟩ := isSt hst
  obtain ⟨b1, b2, b3⟩ := en_b hst
  have b4 := b3 x hx
  have hdx : x / tst t ≤ x := Nat.div_le_self _ _
  have hct : (nI t).toNatClampNeg = t := nI_clamp (by omega)
  unfold F_X11_looked
  refine hb_gRs hm0 (by decide) rfl ?_
  refine hb_aI g2 (nI_in ht (by decide)) ?_
  rw [hct, v1]
  refine hb_ck n2 ?_
  refine hb_rt ?_
  rw [pk_div (by omega) n3 n4, ix257, nI_1]
  refine hb_gRs hm0 (by decide) rfl ?_
  refine hb_aF g3 (nI_in (by omega) (by decide)) ?_
  refine hb_gRs hm0 (by decide) rfl ?_
  refine hb_aF g3 (nI_in (by omega) (by decide)) ?_
  rw [nI_clamp (show 257 * t + x / tst t < 2 ^ 31 by omega), nI_clamp (show 257 * t + x / tst t + 1 < 2 ^ 31 by omega), v2 (x / tst t) (by omega), show 257 * t + x / tst t + 1 = 257 * t + (x / tst t + 1) by omega, v2 (x / tst t + 1) (by omega)]
  rw [pk_mul, pk_sub (Nat.div_mul_le_self x (tst t))]
  refine hb_ck ((part_m hst).nn (by decide)) ?_
  refine hb_rt ?_
  refine hb_ck (sub_m.nn (by decide)) ?_
  refine hb_rt ?_
  refine hb_ck ((mul_m hst).nn (by decide)) ?_
  refine hb_rt ?_
  refine hb_ck ((tl_m (v := vl c) (x := x) hst).nn (by decide)) ?_
  exact hb_rt (hr_rt ⟨rfl, rfl⟩)
theorem m_entry {x1 x2 : Int32} {P : UInt64 → WS → Prop} (hm : MO ws.1 am nc kn) (hnc : nc ≤ 60) (htm : TM ws.1 am vl tcu tst) (hti : TI nc tcu tst)
    (h1 : ∀ t c k, t < 4 → x1 = nI t → tcu t = some c → k < en (tst t) → x2 = nI k → P (FP.f2d (TE (vl c) (tst t) k)) ws)
    (h0 : (∀ t c k, t < 4 → x1 = nI t → tcu t = some c → k < en (tst t) → ¬ x2 = nI k) → P 13924712783166832640 ws) : Hr (F_X11_entry am x1 x2) ws P := by
  have hm0 := hm
  unfold MO at hm0
  unfold F_X11_entry
  refine hb_dr hm0 (by decide) ?_
  refine qm_isTable hm hnc htm hti (fun t c ht e htc2 => ?_) (fun hno => hr_t rfl (hr_rt (h0 (fun t c k a b c2 _ _ => ?_))))
  · obtain ⟨a, b, ee, g1, g2, g3, hg⟩ := htm
    obtain ⟨v1, v2⟩ := (hg t ht).2 c htc2
    have hst := (hti t c ht htc2).2
    obtain ⟨n1, n2, n3, n4⟩ := isSt hst
    obtain ⟨b1, b2, b3⟩ := en_b hst
    have hone : ∀ t2 c2, t2 < 4 → x1 = nI t2 → tcu t2 = some c2 → t2 = t ∧ c2 = c := by
      intro t2 c2 a b d
      have et : t2 = t := nI_inj (by omega) (by omega) (by rw [← b, e])
      rw [et, htc2] at d
      exact ⟨et, (Option.some.inj d).symm⟩
    have hbad : (x2 < 0 ∨ nI (en (tst t)) ≤ x2) → P 13924712783166832640 ws := fun h => h0 (fun t2 c2 k a b d k4 k5 => by
      obtain ⟨rfl, rfl⟩ := hone t2 c2 a b d
      exact no_ix h k4 (by omega) k5)
    have hct : (nI t).toNatClampNeg = t := nI_clamp (by omega)
    have hP := fun k => h1 t c k ht e htc2
    subst e
    refine hr_f (by decide) ?_
    refine hr_br (fun b => hr_rt (hbad (Or.inl b))) (fun c1 => ?_)
    refine hb_gRs hm0 (by decide) rfl ?_
    refine hb_aI g2 (nI_in ht (by decide)) ?_
    rw [hct, v1]
    refine hb_ck n2 ?_
    rw [show (4096 : Int32) = nI 4096 from rfl, pk_div (by decide) n3 n4]
    have hen : en (tst t) = 4096 / tst t + 1 := rfl
    refine hr_br (fun b => hr_rt (hbad (Or.inr ?_))) (fun c2 => ?_)
    · rw [Int32.lt_iff_toInt_lt, nI_toInt (by omega)] at b
      rw [Int32.le_iff_toInt_le, nI_toInt (by omega), hen]
      omega
    · obtain ⟨k, hk, ek⟩ := nI_ofInt (n := en (tst t)) c1 (by
        rw [Int32.lt_iff_toInt_lt, nI_toInt (by omega)] at c2
        rw [Int32.lt_iff_toInt_lt, nI_toInt (by omega), hen]
        omega) (by omega)
      have hP2 := hP k hk ek
      subst ek
      rw [ix257]
      refine hb_gRs hm0 (by decide) rfl ?_
      refine hb_aF g3 (nI_in (by omega) (by decide)) ?_
      rw [nI_clamp (by omega), v2 k hk]
      refine hb_ck (dfin_nn (f2d_fin te_m (by decide))) ?_
      exact hb_rt (hr_rt hP2)
  · rcases hno with h | ⟨t2, p, q, r⟩
    · exact absurd b (fun b => no_ix h a (by decide) b)
    · have et : t2 = t := nI_inj (by omega) (by omega) (by rw [← q, ← b])
      rw [et, c2] at r
      cases r
theorem m_lookup {x1 x2 : Int32} {P : UInt64 → WS → Prop} (hm : MO ws.1 am nc kn) (hnc : nc ≤ 60) (htm : TM ws.1 am vl tcu tst) (hti : TI nc tcu tst)
    (h1 : ∀ t c x, t < 4 → x1 = nI t → tcu t = some c → x < 4096 → x2 = nI x → P (FP.f2d (TL (vl c) (tst t) x)) ws)
    (h0 : (((x1 < 0 ∨ nI 4 ≤ x1) ∨ ∃ t, t < 4 ∧ x1 = nI t ∧ tcu t = none) ∨ ¬ isCt x2) → P 13924712783166832640 ws) : Hr (F_X11_lookup am x1 x2) ws P := by
  have hm0 := hm
  unfold MO at hm0
  unfold F_X11_lookup
  refine hb_dr hm0 (by decide) ?_
  refine qm_isTable hm hnc htm hti (fun t c ht e htc2 => ?_) (fun hno => hr_t rfl (hr_rt (h0 (Or.inl hno))))
  refine hr_f (by decide) ?_
  refine qm_isCount (fun b => ?_) (fun b => hr_t rfl (hr_rt (h0 (Or.inr b))))
  refine hr_f (by decide) ?_
  obtain ⟨x, hx, ex⟩ := isCt_ix.mp b
  have hP := h1 t c x ht e htc2 hx ex
  rw [e, ex]
  refine hb_dr hm0 (by decide) ?_
  refine hb_c (m_looked hm htm hti ht htc2 hx) (fun r u h => ?_)
  obtain ⟨rfl, rfl⟩ := h
  refine hb_ck (dfin_nn (f2d_fin (tl_m (hti t c ht htc2).2) (by decide))) ?_
  exact hb_rt (hr_rt hP)
theorem m_offBy {t c x : Nat} (hm : MO ws.1 am nc kn) (hc : MC ws.1 am nc so wk vl) (hnc : nc ≤ 60) (htm : TM ws.1 am vl tcu tst) (hti : TI nc tcu tst) (ht : t < 4) (htc : tcu t = some c) (hx : x < 4096) : Hr (F_X11_offBy am (nI t) (nI x)) ws (fun r u => u = ws ∧ r = TO (vl c) (tst t) x) := by
  have hm0 := hm
  unfold MO at hm0
  have hst := (hti t c ht htc).2
  have hcn := (hti t c ht htc).1
  unfold F_X11_offBy
  refine hb_dr hm0 (by decide) ?_
  refine hb_c (m_looked hm htm hti ht htc hx) (fun r u h => ?_)
  obtain ⟨rfl, rfl⟩ := h
  obtain ⟨a, b, e, g1, g2, g3, hg⟩ := htm
  obtain ⟨f5, f6, f7, g5, g6, g7, hg7⟩ := hc
  have hct : (nI t).toNatClampNeg = t := nI_clamp (by omega)
  refine hb_ck (dfin_nn (f2d_fin (tl_m hst) (by decide))) ?_
  refine hb_rt ?_
  refine hb_gRs hm0 (by decide) rfl ?_
  refine hb_aI g1 (nI_in ht (by decide)) ?_
  rw [hct, (hg t ht).1, htc]
  refine hb_dr hm0 (by decide) ?_
  refine q_of (c := c) hm g7 (by omega) hx ?_
  rw [(hg7 c hcn).2.2 x hx]
  refine hb_ck ((dv_m _).nn (by decide)) ?_
  refine hb_rt ?_
  refine hb_ck (dn_nn (td_n (v := vl c) (st := tst t) (x := x) hst)) ?_
  refine hb_rt ?_
  unfold TO DA TD
  refine hr_br (fun b => hr_rt ⟨rfl, by rw [if_pos b]⟩) (fun b => hr_rt ⟨rfl, by rw [if_neg b]⟩)
theorem m_mostOff {t c : Nat} (hm : MO ws.1 am nc kn) (hc : MC ws.1 am nc so wk vl) (hnc : nc ≤ 60) (htm : TM ws.1 am vl tcu tst) (hti : TI nc tcu tst) (ht : t < 4) (htc : tcu t = some c) : Hr (F_X11_mostOff am (nI t)) ws (fun r u => u = ws ∧ r = nI (TB (vl c) (tst t) 4096)) := by
  have hm0 := hm
  unfold MO at hm0
  unfold F_X11_mostOff
  refine hr_loop (σ := Int32 × Int32) (fun k s => l_X11_mostOff_4 am (nI t) _ k s.1 s.2) (fun rec s => b_X11_mostOff_4 am (nI t) (fun a b => rec (a, b)) _ s.1 s.2) (fun k s => rfl) 4096 (fun x s w => w = ws ∧ 1 ≤ x ∧ s = (nI (TB (vl c) (tst t) x), nI x)) ?_ ?_ 4095 FU 1 (0, 1) _ (by decide) rfl ⟨rfl, Nat.le_refl _, rfl⟩
  · intro x s w rec hx hI hrec
    obtain ⟨rfl, h1, rfl⟩ := hI
    dsimp only
    have hb := TB_lt (v := vl c) (st := tst t) x h1
    unfold b_X11_mostOff_4
    refine hr_f (nI_ge (a := x) (b := 4096) hx (by decide)) ?_
    refine hb_dr hm0 (by decide) ?_
    refine hb_c (m_offBy hm hc hnc htm hti ht htc hx) (fun r u h => ?_)
    obtain ⟨rfl, rfl⟩ := h
    refine hb_dr hm0 (by decide) ?_
    refine hb_c (m_offBy hm hc hnc htm hti ht htc (show TB (vl c) (tst t) x < 4096 by omega)) (fun r u h => ?_)
    obtain ⟨rfl, rfl⟩ := h
    unfold j_X11_mostOff_32
    rw [nI_1]
    refine hr_br (fun b => ?_) (fun b => ?_)
    · have e : TB (vl c) (tst t) (x + 1) = TB (vl c) (tst t) x := by
        show (if x = 0 then _ else if _ then _ else _) = _
        rw [if_neg (by omega), if_pos b]
      exact hrec _ _ ⟨rfl, by omega, by rw [e]⟩
    · have e : TB (vl c) (tst t) (x + 1) = x := by
        show (if x = 0 then _ else if _ then _ else _) = _
        rw [if_neg (by omega), if_neg b]
      exact hrec _ _ ⟨rfl, by omega, by rw [e]⟩
  · intro s w rec hI
    obtain ⟨rfl, h1, rfl⟩ := hI
    dsimp only
    unfold b_X11_mostOff_4
    exact hr_t (by decide) (hr_rt ⟨rfl, rfl⟩)
theorem m_off {x1 : Int32} {P : UInt64 → WS → Prop} (hm : MO ws.1 am nc kn) (hc : MC ws.1 am nc so wk vl) (hnc : nc ≤ 60) (htm : TM ws.1 am vl tcu tst) (hti : TI nc tcu tst)
    (h1 : ∀ t c, t < 4 → x1 = nI t → tcu t = some c → P (TO (vl c) (tst t) (TB (vl c) (tst t) 4096)) ws)
    (h0 : ((x1 < 0 ∨ nI 4 ≤ x1) ∨ ∃ t, t < 4 ∧ x1 = nI t ∧ tcu t = none) → P 13924712783166832640 ws) : Hr (F_X11_off am x1) ws P := by
  have hm0 := hm
  unfold MO at hm0
  unfold F_X11_off
  refine hb_dr hm0 (by decide) ?_
  refine qm_isTable hm hnc htm hti (fun t c ht e htc2 => ?_) (fun hno => hr_t rfl (hr_rt (h0 hno)))
  refine hr_f (by decide) ?_
  have hP := h1 t c ht e htc2
  have hb := TB_lt (v := vl c) (st := tst t) 4096 (by decide)
  rw [e]
  refine hb_dr hm0 (by decide) ?_
  refine hb_c (m_mostOff hm hc hnc htm hti ht htc2) (fun r u h => ?_)
  obtain ⟨rfl, rfl⟩ := h
  refine hb_dr hm0 (by decide) ?_
  refine hb_c (m_offBy hm hc hnc htm hti ht htc2 hb) (fun r u h => ?_)
  obtain ⟨rfl, rfl⟩ := h
  exact hr_rt hP
theorem m_offAt {x1 : Int32} {P : Int32 → WS → Prop} (hm : MO ws.1 am nc kn) (hc : MC ws.1 am nc so wk vl) (hnc : nc ≤ 60) (htm : TM ws.1 am vl tcu tst) (hti : TI nc tcu tst)
    (h1 : ∀ t c, t < 4 → x1 = nI t → tcu t = some c → P (nI (TB (vl c) (tst t) 4096)) ws)
    (h0 : ((x1 < 0 ∨ nI 4 ≤ x1) ∨ ∃ t, t < 4 ∧ x1 = nI t ∧ tcu t = none) → P (-2) ws) : Hr (F_X11_offAt am x1) ws P := by
  have hm0 := hm
  unfold MO at hm0
  unfold F_X11_offAt
  refine hb_dr hm0 (by decide) ?_
  refine qm_isTable hm hnc htm hti (fun t c ht e htc2 => ?_) (fun hno => hr_t rfl (hr_rt (h0 hno)))
  refine hr_f (by decide) ?_
  have hP := h1 t c ht e htc2
  rw [e]
  refine hb_dr hm0 (by decide) ?_
  refine hb_c (m_mostOff hm hc hnc htm hti ht htc2) (fun r u h => ?_)
  obtain ⟨rfl, rfl⟩ := h
  exact hr_rt hP
end MTAB
