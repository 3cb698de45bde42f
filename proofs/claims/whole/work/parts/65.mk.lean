/-! ===== what stays, call by call ===== -/
section MK
variable {z tk nc m N : Nat} {Z ca cc : Nat → Nat} {ce : Nat → List Value} {so : Nat → Int32} {wk : Nat → Nat} {vl : Nat → Nat → Int32} {kp : Nat → Nat} {ws : WS} {n : Nat → Nat} {cnt rf wt : Nat → Nat → Int32} {kc kv : Nat → Int32} {pc : Nat → Option Nat} {pf : Nat → Int32} {pw pn : Nat → Nat} {pl : Nat → Nat → Int32} {pg : Nat → Int32} {tcu : Nat → Option Nat} {tst ta : Nat → Nat} {sz : Nat → Int32} {A : BA} {mv : Nat → Nat → Int64}
theorem IC.stat {u : WS} {a1 b1 a2 b2 : Nat} (hi : IC z tk nc m Z ca cc ce so wk vl kp ws) (hu : ∀ q, ¬ (z + a1 ≤ q ∧ q < z + b1) → ¬ (z + a2 ≤ q ∧ q < z + b2) → u.1 q = ws.1 q) (h2 : u.2 = ws.2) (hc1 : (3 ≤ a1 ∧ b1 ≤ 15) ∨ (18 ≤ a1 ∧ b1 ≤ 62)) (hc2 : (63 ≤ a2 ∧ b2 ≤ 67) ∨ (70 ≤ a2 ∧ b2 ≤ 83)) : IC z tk nc m Z ca cc ce so wk vl kp u := by
  have ho := hi.out
  refine hi.keep (fun q hq => ⟨rfl, ?_⟩) (by rw [h2]; exact hi.1.2.2.2.1) (hu _ (by omega) (by omega)) (fun q a b => hu q (by omega) (by omega)) (fun q _ => rfl)
  rcases hq with hq | hq | hq
  · exact hu q (by omega) (by omega)
  · exact hu q (by omega) (by omega)
  · have := ho.1 q hq
    exact hu q (by omega) (by omega)
theorem INV.sens {u : WS} {n2 : Nat → Nat} {cnt2 rf2 wt2 : Nat → Nat → Int32} (hC : IC z tk nc m Z ca cc ce so wk vl kp ws) (hS : IS z ws.1 n cnt rf wt) (hK : IK z tk m ws.1 kc kv) (hP : IP z nc ca ws.1 pc pf pw pn pl pg) (hT : IT z nc Z ca vl ws.1 tcu tst ta) (hB : IB z ws.1 sz A mv) (hR : IR z N nc kp ws) (hu : ∀ q, ¬ (z + 18 ≤ q ∧ q < z + 50) → ¬ (z + 63 ≤ q ∧ q < z + 67) → u.1 q = ws.1 q) (h2 : u.2 = ws.2) (hsc : SC u.1 z n2 cnt2 rf2 wt2) (hsi : SI n2 cnt2 rf2 wt2) (hsm : SM u.1 (z + 62) n2 cnt2 rf2 wt2) : INV z (N + 1) u := by
  have ho := hC.out
  obtain ⟨⟨g, a, b⟩, -⟩ := hS
  refine ⟨tk, nc, m, Z, ca, cc, ce, so, wk, vl, kp, hC.stat hu h2 (by omega) (by omega), ⟨n2, cnt2, rf2, wt2, ⟨g, (hu _ (by omega) (by omega)).trans a, b⟩, hsc, hsi, hsm⟩, ⟨kc, kv, hK.keep (fun q a b => ?_) (fun q a b => hu q (by omega) (by omega))⟩, ⟨pc, pf, pw, pn, pl, pg, hP.keep (Nat.le_refl _) (fun _ _ => rfl) (hu _ (by omega) (by omega)) (fun q a b => hu q (by omega) (by omega)) (fun q a b => hu q (by omega) (by omega))⟩, ⟨tcu, tst, ta, hT.keep (Nat.le_refl _) (fun _ _ => ⟨rfl, rfl⟩) (hu _ (by omega) (by omega)) (fun q hq => ⟨hq, ?_⟩) (fun q a b => hu q (by omega) (by omega))⟩, ⟨sz, A, mv, hB.keep (fun q a b => hu q (by omega) (by omega)) (fun q a b => hu q (by omega) (by omega))⟩, hR.up h2⟩
  · have := ho.2.1 q a b
    exact hu q (by omega) (by omega)
  · have := ho.2.2.1 q hq
    exact hu q (by omega) (by omega)
theorem INV.prob {u : WS} {pc2 : Nat → Option Nat} {pf2 : Nat → Int32} {pw2 pn2 : Nat → Nat} {pl2 : Nat → Nat → Int32} {pg2 : Nat → Int32} (hC : IC z tk nc m Z ca cc ce so wk vl kp ws) (hS : IS z ws.1 n cnt rf wt) (hK : IK z tk m ws.1 kc kv) (hP : IP z nc ca ws.1 pc pf pw pn pl pg) (hT : IT z nc Z ca vl ws.1 tcu tst ta) (hB : IB z ws.1 sz A mv) (hR : IR z N nc kp ws) (hu : ∀ q, ¬ (z + 50 ≤ q ∧ q < z + 62) → ¬ (z + 72 ≤ q ∧ q < z + 78) → u.1 q = ws.1 q) (h2 : u.2 = ws.2) (hpc : PC u.1 z ca pc2 pf2 pw2 pn2 pl2 pg2) (hpm : PM u.1 (z + 62) pc2 pf2 pw2 pn2 pl2 pg2) (hpi : PI nc pc2 pf2 pw2 pn2 pl2 pg2) : INV z (N + 1) u := by
  have ho := hC.out
  obtain ⟨⟨g, a, b⟩, -⟩ := hP
  refine ⟨tk, nc, m, Z, ca, cc, ce, so, wk, vl, kp, hC.stat hu h2 (by omega) (by omega), ⟨n, cnt, rf, wt, hS.keep (hu _ (by omega) (by omega)) (fun q a b => hu q (by omega) (by omega)) (fun q a b => hu q (by omega) (by omega))⟩, ⟨kc, kv, hK.keep (fun q a b => ?_) (fun q a b => hu q (by omega) (by omega))⟩, ⟨pc2, pf2, pw2, pn2, pl2, pg2, ⟨g, (hu _ (by omega) (by omega)).trans a, b⟩, hpc, hpm, hpi⟩, ⟨tcu, tst, ta, hT.keep (Nat.le_refl _) (fun _ _ => ⟨rfl, rfl⟩) (hu _ (by omega) (by omega)) (fun q hq => ⟨hq, ?_⟩) (fun q a b => hu q (by omega) (by omega))⟩, ⟨sz, A, mv, hB.keep (fun q a b => hu q (by omega) (by omega)) (fun q a b => hu q (by omega) (by omega))⟩, hR.up h2⟩
  · have := ho.2.1 q a b
    exact hu q (by omega) (by omega)
  · have := ho.2.2.1 q hq
    exact hu q (by omega) (by omega)
theorem INV.bank {u : WS} {sz2 : Nat → Int32} {A2 : BA} {mv2 : Nat → Nat → Int64} (hC : IC z tk nc m Z ca cc ce so wk vl kp ws) (hS : IS z ws.1 n cnt rf wt) (hK : IK z tk m ws.1 kc kv) (hP : IP z nc ca ws.1 pc pf pw pn pl pg) (hT : IT z nc Z ca vl ws.1 tcu tst ta) (hR : IR z N nc kp ws) (hu : ∀ q, ¬ (z + 5 ≤ q ∧ q < z + 15) → ¬ (z + 81 ≤ q ∧ q < z + 83) → u.1 q = ws.1 q) (h2 : u.2 = ws.2) (hb1 : B1 u.1 (z + 5) sz2 A2) (hbm : BM u.1 (z + 62) sz2 mv2) (hbi : BI sz2) (hbv : BV sz2 A2 mv2) : INV z (N + 1) u := by
  have ho := hC.out
  refine ⟨tk, nc, m, Z, ca, cc, ce, so, wk, vl, kp, hC.stat hu h2 (by omega) (by omega), ⟨n, cnt, rf, wt, hS.keep (hu _ (by omega) (by omega)) (fun q a b => hu q (by omega) (by omega)) (fun q a b => hu q (by omega) (by omega))⟩, ⟨kc, kv, hK.keep (fun q a b => ?_) (fun q a b => hu q (by omega) (by omega))⟩, ⟨pc, pf, pw, pn, pl, pg, hP.keep (Nat.le_refl _) (fun _ _ => rfl) (hu _ (by omega) (by omega)) (fun q a b => hu q (by omega) (by omega)) (fun q a b => hu q (by omega) (by omega))⟩, ⟨tcu, tst, ta, hT.keep (Nat.le_refl _) (fun _ _ => ⟨rfl, rfl⟩) (hu _ (by omega) (by omega)) (fun q hq => ⟨hq, ?_⟩) (fun q a b => hu q (by omega) (by omega))⟩, ⟨sz2, A2, mv2, hb1, hbm, hbi, hbv⟩, hR.up h2⟩
  · have := ho.2.1 q a b
    exact hu q (by omega) (by omega)
  · have := ho.2.2.1 q hq
    exact hu q (by omega) (by omega)
theorem INV.knot {u : WS} {m2 : Nat} {kc2 kv2 : Nat → Int32} (hC : IC z tk nc m Z ca cc ce so wk vl kp ws) (hS : IS z ws.1 n cnt rf wt) (hP : IP z nc ca ws.1 pc pf pw pn pl pg) (hT : IT z nc Z ca vl ws.1 tcu tst ta) (hB : IB z ws.1 sz A mv) (hR : IR z N nc kp ws) (hu : ∀ q, ¬ (tk ≤ q ∧ q < tk + 3) → q ≠ z + 62 → ¬ (z + 70 ≤ q ∧ q < z + 72) → u.1 q = ws.1 q) (h2 : u.2 = ws.2) (hmo : MO u.1 (z + 62) nc m2) (hK : IK z tk m2 u.1 kc2 kv2) : INV z (N + 1) u := by
  have ho := hC.out
  obtain ⟨cC, cM, cV, cZ, cT, cL⟩ := hC
  have hst : ∀ q, z ≤ q → q < z + 83 → ¬ (z + 15 ≤ q ∧ q < z + 18) → q ≠ z + 62 → ¬ (z + 70 ≤ q ∧ q < z + 72) → u.1 q = ws.1 q := by
    intro q a b c d e
    refine hu q (fun h => ?_) d e
    have := ho.2.1 q h.1 h.2
    omega
  have hdy : ∀ q, 3 ≤ Z q → u.1 q = ws.1 q := by
    intro q hq
    have := cZ.out (q := q) (by omega)
    refine hu q (fun h => ?_) (by omega) (by omega)
    have := ho.2.2.2 q h.1 h.2
    omega
  refine ⟨tk, nc, m2, Z, ca, cc, ce, so, wk, vl, kp, ⟨cC.keep (fun q hq => ⟨rfl, ?_⟩) (by rw [h2]; exact cC.2.2.2.1), hmo, cV.keep (fun q a b => hst q (by omega) (by omega) (by omega) (by omega) (by omega)), cZ, cT, cL⟩, ⟨n, cnt, rf, wt, hS.keep (hst _ (by omega) (by omega) (by omega) (by omega) (by omega)) (fun q a b => hst q (by omega) (by omega) (by omega) (by omega) (by omega)) (fun q a b => hst q (by omega) (by omega) (by omega) (by omega) (by omega))⟩, ⟨kc2, kv2, hK⟩, ⟨pc, pf, pw, pn, pl, pg, hP.keep (Nat.le_refl _) (fun _ _ => rfl) (hst _ (by omega) (by omega) (by omega) (by omega) (by omega)) (fun q a b => hst q (by omega) (by omega) (by omega) (by omega) (by omega)) (fun q a b => hst q (by omega) (by omega) (by omega) (by omega) (by omega))⟩, ⟨tcu, tst, ta, hT.keep (Nat.le_refl _) (fun _ _ => ⟨rfl, rfl⟩) (hst _ (by omega) (by omega) (by omega) (by omega) (by omega)) (fun q hq => ⟨hq, hdy q (by omega)⟩) (fun q a b => hst q (by omega) (by omega) (by omega) (by omega) (by omega))⟩, ⟨sz, A, mv, hB.keep (fun q a b => hst q (by omega) (by omega) (by omega) (by omega) (by omega)) (fun q a b => hst q (by omega) (by omega) (by omega) (by omega) (by omega))⟩, hR.up h2⟩
  rcases hq with hq | hq | hq
  · exact hst q (by omega) (by omega) (by omega) (by omega) (by omega)
  · exact hst q (by omega) (by omega) (by omega) (by omega) (by omega)
  · exact hdy q (by omega)
theorem INV.new {t u : WS} {Z2 ca2 cc2 : Nat → Nat} {ce2 : Nat → List Value} {so2 : Nat → Int32} {wk2 : Nat → Nat} {V : Nat → Int32} {kp2 : Nat → Nat} (hC : IC z tk nc m Z ca cc ce so wk vl kp ws) (hS : IS z ws.1 n cnt rf wt) (hK : IK z tk m ws.1 kc kv) (hP : IP z nc ca ws.1 pc pf pw pn pl pg) (hT : IT z nc Z ca vl ws.1 tcu tst ta) (hB : IB z ws.1 sz A mv) (hR : IR z N nc kp ws) (hcs : CS z tk (nc + 1) Z2 ca2 cc2 ce2 so2 wk2 (u1 vl nc V) kp2 t) (hnw : NW z nc Z ca kp ws Z2 ca2 kp2 t) (hmo : MO u.1 (z + 62) (nc + 1) m) (hmc : MC u.1 (z + 62) (nc + 1) so2 wk2 (u1 vl nc V)) (hmf : MF t u (z + 62)) : INV z (N + 1) u := by
  have ho := hC.out
  obtain ⟨cC, cM, cV, cZ, cT, cL⟩ := hC
  obtain ⟨w1, w2, w3, w4, w5⟩ := hnw
  have hz2 : ZS Z2 z := fun q a b c => by
    have e := cZ q a b c
    rw [w2 q (by omega)]
    exact e
  have hst : ∀ q, z ≤ q → q < z + 83 → ¬ (z + 15 ≤ q ∧ q < z + 18) → q ≠ z → q ≠ z + 2 → q ≠ z + 62 → ¬ (z + 67 ≤ q ∧ q < z + 70) → u.1 q = ws.1 q := by
    intro q a b c d e f g
    have e1 := cZ q a b c
    rw [hmf.1 q f (by omega), w3 q (by omega) d e]
  have hdy : ∀ q, Z q = 2 ∨ Z q = 3 → u.1 q = ws.1 q := by
    intro q hq
    have := cZ.out (q := q) (by omega)
    rw [hmf.1 q (by omega) (by omega), w3 q (by omega) (fun e => ?_) (fun e => ?_)]
    · rw [e] at hq
      have := cZ z (by omega) (by omega) (by omega)
      omega
    · rw [e] at hq
      have := cZ (z + 2) (by omega) (by omega) (by omega)
      omega
  refine ⟨tk, nc + 1, m, Z2, ca2, cc2, ce2, so2, wk2, u1 vl nc V, kp2, ⟨hcs.keep (fun q hq => ⟨rfl, ?_⟩) (by rw [hmf.2]; exact hcs.2.2.2.1), hmo, hmc, hz2, ⟨(w2 _ (by omega)).trans cT.1, (w2 _ (by omega)).trans cT.2.1, (w2 _ (by omega)).trans cT.2.2⟩, cL⟩, ⟨n, cnt, rf, wt, hS.keep (hst _ (by omega) (by omega) (by omega) (by omega) (by omega) (by omega) (by omega)) (fun q a b => hst q (by omega) (by omega) (by omega) (by omega) (by omega) (by omega) (by omega)) (fun q a b => hst q (by omega) (by omega) (by omega) (by omega) (by omega) (by omega) (by omega))⟩, ⟨kc, kv, hK.keep (fun q a b => hdy q (Or.inl (ho.2.2.2 q a b))) (fun q a b => hst q (by omega) (by omega) (by omega) (by omega) (by omega) (by omega) (by omega))⟩, ⟨pc, pf, pw, pn, pl, pg, hP.keep (Nat.le_succ _) w1 (hst _ (by omega) (by omega) (by omega) (by omega) (by omega) (by omega) (by omega)) (fun q a b => hst q (by omega) (by omega) (by omega) (by omega) (by omega) (by omega) (by omega)) (fun q a b => hst q (by omega) (by omega) (by omega) (by omega) (by omega) (by omega) (by omega))⟩, ⟨tcu, tst, ta, hT.keep (Nat.le_succ _) (fun i hi => ⟨w1 i hi, u1_n (by omega)⟩) (hst _ (by omega) (by omega) (by omega) (by omega) (by omega) (by omega) (by omega)) (fun q hq => ⟨(w2 q (by omega)).trans hq, hdy q (Or.inr hq)⟩) (fun q a b => hst q (by omega) (by omega) (by omega) (by omega) (by omega) (by omega) (by omega))⟩, ⟨sz, A, mv, hB.keep (fun q a b => hst q (by omega) (by omega) (by omega) (by omega) (by omega) (by omega) (by omega)) (fun q a b => hst q (by omega) (by omega) (by omega) (by omega) (by omega) (by omega) (by omega))⟩, ?_⟩
  · rcases hq with hq | hq | hq
    · exact hmf.1 q (by omega) (by omega)
    · exact hmf.1 q (by omega) (by omega)
    · have := hz2.out (q := q) (by omega)
      exact hmf.1 q (by omega) (by omega)
  · unfold IR at hR ⊢
    rw [hmf.2]
    omega
theorem INV.pieces {t u : WS} {Z2 ca2 cc2 : Nat → Nat} {ce2 : Nat → List Value} {so2 : Nat → Int32} {wk2 : Nat → Nat} {V : Nat → Int32} {kp2 : Nat → Nat} (hC : IC z tk nc m Z ca cc ce so wk vl kp ws) (hS : IS z ws.1 n cnt rf wt) (hK : IK z tk m ws.1 kc kv) (hP : IP z nc ca ws.1 pc pf pw pn pl pg) (hT : IT z nc Z ca vl ws.1 tcu tst ta) (hB : IB z ws.1 sz A mv) (hR : IR z N nc kp ws) (hcs : CS z ws.2.1 (nc + 1) Z2 ca2 cc2 ce2 so2 wk2 (u1 vl nc V) kp2 t) (hkc : KC t.1 ws.2.1 0 kc kv) (hz2' : Z2 ws.2.1 = 2 ∧ Z2 (ws.2.1 + 1) = 2 ∧ Z2 (ws.2.1 + 2) = 2) (hpw : PW z nc tk Z ca kp ws Z2 ca2 kp2 t) (hmo : MO u.1 (z + 62) (nc + 1) 0) (hmc : MC u.1 (z + 62) (nc + 1) so2 wk2 (u1 vl nc V)) (hmf : MF t u (z + 62)) : INV z (N + 1) u := by
  have ho := hC.out
  obtain ⟨cC, cM, cV, cZ, cT, cL⟩ := hC
  obtain ⟨w1, w2, w3, w4, w5⟩ := hpw
  have hz2 : ZS Z2 z := fun q a b c => by
    have e := cZ q a b c
    rw [w2 q (by omega) (by omega)]
    exact e
  have hst : ∀ q, z ≤ q → q < z + 83 → ¬ (z + 15 ≤ q ∧ q < z + 18) → q ≠ z → q ≠ z + 2 → q ≠ z + 62 → ¬ (z + 67 ≤ q ∧ q < z + 70) → u.1 q = ws.1 q := by
    intro q a b c d e f g
    have e1 := cZ q a b c
    rw [hmf.1 q f (by omega), w3 q (by omega) (by omega) d e]
  have hdy : ∀ q, Z q = 3 → u.1 q = ws.1 q := by
    intro q hq
    have := cZ.out (q := q) (by omega)
    rw [hmf.1 q (by omega) (by omega), w3 q (by omega) (by omega) (fun e => ?_) (fun e => ?_)]
    · rw [e] at hq
      have := cZ z (by omega) (by omega) (by omega)
      omega
    · rw [e] at hq
      have := cZ (z + 2) (by omega) (by omega) (by omega)
      omega
  have hzw : z + 82 < ws.2.1 := cC.2.2.2.1 (z + 82) (by rw [cZ (z + 82) (by omega) (by omega) (by omega)]; decide)
  have hnk : ∀ q, ws.2.1 ≤ q → q < ws.2.1 + 3 → u.1 q = t.1 q := fun q a b => hmf.1 q (by omega) (by omega)
  refine ⟨ws.2.1, nc + 1, 0, Z2, ca2, cc2, ce2, so2, wk2, u1 vl nc V, kp2, ⟨hcs.keep (fun q hq => ⟨rfl, ?_⟩) (by rw [hmf.2]; exact hcs.2.2.2.1), hmo, hmc, hz2, hz2', by omega⟩, ⟨n, cnt, rf, wt, hS.keep (hst _ (by omega) (by omega) (by omega) (by omega) (by omega) (by omega) (by omega)) (fun q a b => hst q (by omega) (by omega) (by omega) (by omega) (by omega) (by omega) (by omega)) (fun q a b => hst q (by omega) (by omega) (by omega) (by omega) (by omega) (by omega) (by omega))⟩, ⟨kc, kv, hkc.keep hnk, ?_, ⟨by omega, ⟨fun j h => absurd h (Nat.not_lt_zero _), fun i j _ h => absurd h (Nat.not_lt_zero _)⟩, fun j h => absurd h (Nat.not_lt_zero _)⟩⟩, ⟨pc, pf, pw, pn, pl, pg, hP.keep (Nat.le_succ _) w1 (hst _ (by omega) (by omega) (by omega) (by omega) (by omega) (by omega) (by omega)) (fun q a b => hst q (by omega) (by omega) (by omega) (by omega) (by omega) (by omega) (by omega)) (fun q a b => hst q (by omega) (by omega) (by omega) (by omega) (by omega) (by omega) (by omega))⟩, ⟨tcu, tst, ta, hT.keep (Nat.le_succ _) (fun i hi => ⟨w1 i hi, u1_n (by omega)⟩) (hst _ (by omega) (by omega) (by omega) (by omega) (by omega) (by omega) (by omega)) (fun q hq => ⟨(w2 q (by omega) (by omega)).trans hq, hdy q hq⟩) (fun q a b => hst q (by omega) (by omega) (by omega) (by omega) (by omega) (by omega) (by omega))⟩, ⟨sz, A, mv, hB.keep (fun q a b => hst q (by omega) (by omega) (by omega) (by omega) (by omega) (by omega) (by omega)) (fun q a b => hst q (by omega) (by omega) (by omega) (by omega) (by omega) (by omega) (by omega))⟩, ?_⟩
  · rcases hq with hq | hq | hq
    · exact hmf.1 q (by omega) (by omega)
    · exact hmf.1 q (by omega) (by omega)
    · have := hz2.out (q := q) (by omega)
      exact hmf.1 q (by omega) (by omega)
  · obtain ⟨fc, fv, k1, k2, -⟩ := hK.2.1
    exact ⟨fc, fv, (hst _ (by omega) (by omega) (by omega) (by omega) (by omega) (by omega) (by omega)).trans k1, (hst _ (by omega) (by omega) (by omega) (by omega) (by omega) (by omega) (by omega)).trans k2, fun j h => absurd h (Nat.not_lt_zero _)⟩
  · unfold IR at hR ⊢
    rw [hmf.2]
    omega
/-- rows and forms may have been made -/
theorem INV.ask {u : WS} {Z2 kp2 ta2 : Nat → Nat} (hC : IC z tk nc m Z ca cc ce so wk vl kp ws) (hS : IS z ws.1 n cnt rf wt) (hK : IK z tk m ws.1 kc kv) (hP : IP z nc ca ws.1 pc pf pw pn pl pg) (hT : IT z nc Z ca vl ws.1 tcu tst ta) (hB : IB z ws.1 sz A mv) (hR : IR z N nc kp ws) (hcs : CS z tk nc Z2 ca cc ce so wk vl kp2 u) (hz : ∀ q, ¬ Z q = 0 → Z2 q = Z q) (hu : ∀ q, Z q = 1 ∨ Z q = 2 → u.1 q = ws.1 q) (htc : TC u.1 z Z2 ca vl tcu tst ta2) (h1 : u.2.1 + Sm kp2 nc ≤ ws.2.1 + Sm kp nc) (h2 : u.2.2 + 4096 * Sm kp2 nc ≤ ws.2.2 + 4096 * Sm kp nc) : INV z (N + 1) u ∧ MO u.1 (z + 62) nc m ∧ MC u.1 (z + 62) nc so wk vl ∧ TM u.1 (z + 62) vl tcu tst := by
  have ho := hC.out
  obtain ⟨cC, cM, cV, cZ, cT, cL⟩ := hC
  have hst : ∀ q, z ≤ q → q < z + 83 → ¬ (z + 15 ≤ q ∧ q < z + 18) → u.1 q = ws.1 q := fun q a b c => hu q (Or.inl (cZ q a b c))
  have hmo : MO u.1 (z + 62) nc m := (hst _ (by omega) (by omega) (by omega)).trans cM
  have hmc : MC u.1 (z + 62) nc so wk vl := cV.keep (fun q a b => hst q (by omega) (by omega) (by omega))
  have htm : TM u.1 (z + 62) vl tcu tst := hT.2.1.keep hT.2.2 (fun q a b => hst q (by omega) (by omega) (by omega)) (fun _ _ => rfl)
  refine ⟨⟨tk, nc, m, Z2, ca, cc, ce, so, wk, vl, kp2, ⟨hcs, hmo, hmc, fun q a b c => ?_, ⟨(hz _ (by omega)).trans cT.1, (hz _ (by omega)).trans cT.2.1, (hz _ (by omega)).trans cT.2.2⟩, cL⟩, ⟨n, cnt, rf, wt, hS.keep (hst _ (by omega) (by omega) (by omega)) (fun q a b => hst q (by omega) (by omega) (by omega)) (fun q a b => hst q (by omega) (by omega) (by omega))⟩, ⟨kc, kv, hK.keep (fun q a b => hu q (Or.inr (ho.2.2.2 q a b))) (fun q a b => hst q (by omega) (by omega) (by omega))⟩, ⟨pc, pf, pw, pn, pl, pg, hP.keep (Nat.le_refl _) (fun _ _ => rfl) (hst _ (by omega) (by omega) (by omega)) (fun q a b => hst q (by omega) (by omega) (by omega)) (fun q a b => hst q (by omega) (by omega) (by omega))⟩, ⟨tcu, tst, ta2, htc, htm, hT.2.2⟩, ⟨sz, A, mv, hB.keep (fun q a b => hst q (by omega) (by omega) (by omega)) (fun q a b => hst q (by omega) (by omega) (by omega))⟩, ?_⟩, hmo, hmc, htm⟩
  · have e := cZ q a b c
    rw [hz q (by omega)]
    exact e
  · unfold IR at hR ⊢
    omega
theorem INV.table {t u : WS} {Z2 ta2 : Nat → Nat} {tcu2 : Nat → Option Nat} {tst2 : Nat → Nat} (hC : IC z tk nc m Z ca cc ce so wk vl kp ws) (hS : IS z ws.1 n cnt rf wt) (hK : IK z tk m ws.1 kc kv) (hP : IP z nc ca ws.1 pc pf pw pn pl pg) (hB : IB z ws.1 sz A mv) (hR : IR z N nc kp ws) (hcs : CS z tk nc Z2 ca cc ce so wk vl kp t) (htc : TC t.1 z Z2 ca vl tcu2 tst2 ta2) (htw : TW z Z ws Z2 t) (hfr : FR t u (z + 62 + 16) (z + 62 + 19)) (htm : TM u.1 (z + 62) vl tcu2 tst2) (hti : TI nc tcu2 tst2) : INV z (N + 1) u := by
  have ho := hC.out
  obtain ⟨cC, cM, cV, cZ, cT, cL⟩ := hC
  obtain ⟨w1, w2, w3, w4⟩ := htw
  have hz2 : ZS Z2 z := fun q a b c => by
    have e := cZ q a b c
    rw [w1 q (by omega)]
    exact e
  have hst : ∀ q, z ≤ q → q < z + 83 → ¬ (z + 15 ≤ q ∧ q < z + 18) → q ≠ z + 4 → ¬ (z + 78 ≤ q ∧ q < z + 81) → u.1 q = ws.1 q := by
    intro q a b c d e
    have e1 := cZ q a b c
    rw [hfr.1 q (by omega), w2 q (by omega) (by omega) d]
  have hut : ∀ q, Z2 q ≠ 1 → u.1 q = t.1 q := fun q hq => by
    have := hz2.out (q := q) hq
    exact hfr.1 q (by omega)
  have hdy : ∀ q, Z q = 2 → u.1 q = ws.1 q := by
    intro q hq
    have := cZ.out (q := q) (by omega)
    rw [hfr.1 q (by omega), w2 q (by omega) (by omega) (fun e => ?_)]
    rw [e] at hq
    have := cZ (z + 4) (by omega) (by omega) (by omega)
    omega
  refine ⟨tk, nc, m, Z2, ca, cc, ce, so, wk, vl, kp, ⟨hcs.keep (fun q hq => ⟨rfl, ?_⟩) (by rw [hfr.2]; exact hcs.2.2.2.1), (hst _ (by omega) (by omega) (by omega) (by omega) (by omega)).trans cM, cV.keep (fun q a b => hst q (by omega) (by omega) (by omega) (by omega) (by omega)), hz2, ⟨(w1 _ (by omega)).trans cT.1, (w1 _ (by omega)).trans cT.2.1, (w1 _ (by omega)).trans cT.2.2⟩, cL⟩, ⟨n, cnt, rf, wt, hS.keep (hst _ (by omega) (by omega) (by omega) (by omega) (by omega)) (fun q a b => hst q (by omega) (by omega) (by omega) (by omega) (by omega)) (fun q a b => hst q (by omega) (by omega) (by omega) (by omega) (by omega))⟩, ⟨kc, kv, hK.keep (fun q a b => hdy q (ho.2.2.2 q a b)) (fun q a b => hst q (by omega) (by omega) (by omega) (by omega) (by omega))⟩, ⟨pc, pf, pw, pn, pl, pg, hP.keep (Nat.le_refl _) (fun _ _ => rfl) (hst _ (by omega) (by omega) (by omega) (by omega) (by omega)) (fun q a b => hst q (by omega) (by omega) (by omega) (by omega) (by omega)) (fun q a b => hst q (by omega) (by omega) (by omega) (by omega) (by omega))⟩, ⟨tcu2, tst2, ta2, htc.keep hti (fun q hq => ⟨hq, hut q (by omega)⟩) (hfr.1 _ (by omega)) (fun _ _ => ⟨rfl, rfl⟩), htm, hti⟩, ⟨sz, A, mv, hB.keep (fun q a b => hst q (by omega) (by omega) (by omega) (by omega) (by omega)) (fun q a b => hst q (by omega) (by omega) (by omega) (by omega) (by omega))⟩, ?_⟩
  · rcases hq with hq | hq | hq
    · exact hfr.1 q (by omega)
    · exact hfr.1 q (by omega)
    · exact hut q (by omega)
  · unfold IR at hR ⊢
    rw [hfr.2]
    omega
end MK
