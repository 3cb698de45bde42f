/-! ===== each call, both objects: PROBES, TABLES, BANKS, count ===== -/
section JOIN2
variable {z N : Nat} {ws : WS} {x1 x2 x3 x4 : Int32} {v : Int64}
theorem n_probe (hI : INV z N ws) : JN (F_X10_probe z x1 x2 x3 x4) (F_X11_probe (z + 62) x1 x2 x3 x4) z N ws := by
  obtain ⟨tk, nc, m, Z, ca, cc, ce, so, wk, vl, kp, hC, ⟨n, cnt, rf, wt, hS⟩, ⟨kc, kv, hK⟩, ⟨pc, pf, pw, pn, pl, pg, hP⟩, ⟨tcu, tst, ta, hT⟩, ⟨sz, A, mv, hB⟩, hR⟩ := id hI
  have hcs := hC.1
  have hmo := hC.2.1
  have hmc := hC.2.2.1
  have hnc := hcs.2.2.2.2.1
  have hwk := hcs.2.2.2.2.2.2
  unfold JN
  obtain ⟨pA, pC, pM, pI⟩ := id hP
  refine c_probe hcs pA pC pI (fun p c w ok t t1 t2 => ?_) (fun hno => ⟨⟨_, hmo⟩, m_probe hmo hnc pM (fun p c w ok => absurd ok (hno p c w)) (fun _ => ⟨rfl, hI.same⟩)⟩)
  have hmt : MO t.1 (z + 62) nc m := (t2.1 _ (by omega)).trans hmo
  refine ⟨⟨_, hmt⟩, m_probe hmt hnc (pM.keep (fun q a b => t2.1 q (by omega))) (fun p2 c2 w2 ok2 u u1' u2' => ?_) (fun hno => absurd ok (hno p c w))⟩
  have ep : p2 = p := nI_inj (by have := ok2.1; omega) (by have := ok.1; omega) (by rw [← ok2.2.1, ok.2.1])
  have ec : c2 = c := nI_inj (by have := ok2.2.2.1; omega) (by have := ok.2.2.1; omega) (by rw [← ok2.2.2.2.1, ok.2.2.2.1])
  have ew : w2 = w := nI_inj (by have := ok2.2.2.2.2.2.2.2.1; omega) (by have := ok.2.2.2.2.2.2.2.1; omega) (by rw [← ok2.2.2.2.2.2.2.2.2, ok.2.2.2.2.2.2.2.2])
  subst ep
  subst ec
  subst ew
  obtain ⟨k1, k2, k3, k4, k5, k6, k7, k8, k9⟩ := ok
  refine ⟨rfl, INV.prob hC hS hK hP hT hB hR (fun q a b => (u2'.1 q (by omega)).trans (t2.1 q (by omega))) (u2'.2.trans t2.2) (t1.keep (nc := nc) (pI.put ⟨fun c h => by cases h; exact k3, i32_012 k5 k6, k7, k8, by omega, fun k h => absurd h (Nat.not_lt_zero _), fun h => absurd h (Nat.lt_irrefl _)⟩) (fun q a b => u2'.1 q (by omega)) (fun _ _ => rfl)) u1' (pI.put ⟨fun c h => by cases h; exact k3, i32_012 k5 k6, k7, k8, by omega, fun k h => absurd h (Nat.not_lt_zero _), fun h => absurd h (Nat.lt_irrefl _)⟩)⟩
theorem n_feed (hI : INV z N ws) : JN (F_X10_feed z x1 x2) (F_X11_feed (z + 62) x1 x2) z N ws := by
  obtain ⟨tk, nc, m, Z, ca, cc, ce, so, wk, vl, kp, hC, ⟨n, cnt, rf, wt, hS⟩, ⟨kc, kv, hK⟩, ⟨pc, pf, pw, pn, pl, pg, hP⟩, ⟨tcu, tst, ta, hT⟩, ⟨sz, A, mv, hB⟩, hR⟩ := id hI
  have hcs := hC.1
  have hmo := hC.2.1
  have hmc := hC.2.2.1
  have hnc := hcs.2.2.2.2.1
  have hwk := hcs.2.2.2.2.2.2
  unfold JN
  obtain ⟨pA, pC, pM, pI⟩ := id hP
  refine c_feed hcs.1 pA pC pI (fun p hp e hct r t t1 t2 hr => ?_) (fun hno => ⟨⟨_, hmo⟩, m_feed hmo pM pI (fun p hp e hct => ?_) (fun _ => ⟨rfl, hI.same⟩)⟩)
  · have hmt : MO t.1 (z + 62) nc m := (t2.1 _ (by omega)).trans hmo
    refine ⟨⟨_, hmt⟩, m_feed hmt (pM.keep (fun q a b => t2.1 q (by omega))) pI (fun p2 hp2 e2 _ => ?_) (fun hno => ?_)⟩
    · have ep : p2 = p := nI_inj (by omega) (by omega) (by rw [← e2, e])
      subst ep
      refine ⟨r, hr, fun u u1' u2' => ⟨rfl, ?_⟩⟩
      obtain ⟨i1, i2, i3, i4, i5, i6, i7⟩ := pI p2 hp
      obtain ⟨j, hj, ej⟩ := isCt_ix.mp hct
      have hxi : x2.toInt = j := by rw [ej, nI_toInt (by omega)]
      have hb : ∀ k, k < min (pn p2 + 1) 9 → 0 ≤ (cons9 x2 (pl p2) k).toInt ∧ (cons9 x2 (pl p2) k).toInt ≤ 4095 := by
        intro k hk
        unfold cons9
        by_cases ek : k = 0
        · rw [if_pos ek]; omega
        · rw [if_neg ek]
          exact i6 (k - 1) (by omega)
      have hpi2 : PI nc (u1 pc p2 (pc p2)) (u1 pf p2 (pf p2)) (u1 pw p2 (pw p2)) (u1 pn p2 (min (pn p2 + 1) 9)) (u1 pl p2 (cons9 x2 (pl p2))) (u1 pg p2 r) := pI.put ⟨i1, i2, i3, i4, by omega, hb, fun _ => hr.ct (by omega) (by omega) (fun k hk => hb k (by omega))⟩
      exact INV.prob hC hS hK hP hT hB hR (fun q a b => (u2'.1 q (by omega)).trans (t2.1 q (by omega))) (u2'.2.trans t2.2) (t1.keep hpi2 (fun q a b => u2'.1 q (by omega)) (fun _ _ => rfl)) u1' hpi2
    · rcases hno with h | h
      · exact absurd e (fun e => no_ix h hp (by decide) e)
      · exact absurd hct h
  · rcases hno with h | h
    · exact absurd e (fun e => no_ix h hp (by decide) e)
    · exact absurd hct h
theorem n_probed (hI : INV z N ws) : JN (F_X10_probed z x1) (F_X11_probed (z + 62) x1) z N ws := by
  obtain ⟨tk, nc, m, Z, ca, cc, ce, so, wk, vl, kp, hC, ⟨n, cnt, rf, wt, hS⟩, ⟨kc, kv, hK⟩, ⟨pc, pf, pw, pn, pl, pg, hP⟩, ⟨tcu, tst, ta, hT⟩, ⟨sz, A, mv, hB⟩, hR⟩ := id hI
  have hcs := hC.1
  have hmo := hC.2.1
  have hmc := hC.2.2.1
  have hnc := hcs.2.2.2.2.1
  have hwk := hcs.2.2.2.2.2.2
  unfold JN
  obtain ⟨pA, pC, pM, pI⟩ := id hP
  have hbad : ∀ p, p < 4 → x1 = nI p → (∃ c, pc p = some c) → 0 < pn p → ¬ ((x1 < 0 ∨ nI 4 ≤ x1) ∨ ∃ p, p < 4 ∧ x1 = nI p ∧ (pc p = none ∨ pn p = 0)) := by
    intro p hp e ⟨c, hc⟩ hn h
    rcases h with h | ⟨q, q1, q2, q3⟩
    · exact no_ix h hp (by decide) e
    · have eq : q = p := nI_inj (by omega) (by omega) (by rw [← q2, e])
      subst eq
      rcases q3 with q3 | q3
      · rw [hc] at q3; cases q3
      · omega
  refine c_probed hcs pA pC pI (fun p c j hp e hc hn hj ej => ⟨⟨_, hmo⟩, m_probed hmo hmc hnc pM pI (fun p2 c2 j2 hp2 e2 hc2 hn2 hj2 ej2 => ?_) (fun hno => absurd hno (hbad p hp e ⟨c, hc⟩ hn))⟩) (fun hno => ⟨⟨_, hmo⟩, m_probed hmo hmc hnc pM pI (fun p c j hp e hc hn hj ej => absurd hno (hbad p hp e ⟨c, hc⟩ hn)) (fun _ => ⟨rfl, hI.same⟩)⟩)
  have ep : p2 = p := nI_inj (by omega) (by omega) (by rw [← e2, e])
  subst ep
  rw [hc] at hc2
  cases hc2
  have ejj : j2 = j := nI_inj (by omega) (by omega) (by rw [← ej2, ej])
  subst ejj
  exact ⟨rfl, hI.same⟩
theorem n_table (hI : INV z N ws) : JN (F_X10_table z x1 x2 x3) (F_X11_table (z + 62) x1 x2 x3) z N ws := by
  obtain ⟨tk, nc, m, Z, ca, cc, ce, so, wk, vl, kp, hC, ⟨n, cnt, rf, wt, hS⟩, ⟨kc, kv, hK⟩, ⟨pc, pf, pw, pn, pl, pg, hP⟩, ⟨tcu, tst, ta, hT⟩, ⟨sz, A, mv, hB⟩, hR⟩ := id hI
  have hcs := hC.1
  have hmo := hC.2.1
  have hmc := hC.2.2.1
  have hnc := hcs.2.2.2.2.1
  have hwk := hcs.2.2.2.2.2.2
  unfold JN
  obtain ⟨tC, tM, tI⟩ := id hT
  have hz4 : Z (z + 4) = 1 := hC.2.2.2.1 _ (by omega) (by omega) (by omega)
  refine c_table hcs tC tI hz4 (fun t c st ok u Z2 ta2 u1' u2' u3' => ?_) (fun hno => ⟨⟨_, hmo⟩, m_table hmo hmc hnc tM tI (fun t c st ok => absurd ok (hno t c st)) (fun _ => ⟨rfl, hI.same⟩)⟩)
  have hst : ∀ q, z + 62 ≤ q → q < z + 83 → u.1 q = ws.1 q := fun q a b => u3'.2.1 q (by rw [hC.2.2.2.1 q (by omega) (by omega) (by omega)]; decide) (by rw [hC.2.2.2.1 q (by omega) (by omega) (by omega)]; decide) (by omega)
  have hmt : MO u.1 (z + 62) nc m := (hst _ (by omega) (by omega)).trans hmo
  refine ⟨⟨_, hmt⟩, m_table hmt (hmc.keep (fun q a b => hst q (by omega) (by omega))) hnc (tM.keep tI (fun q a b => hst q (by omega) (by omega)) (fun _ _ => rfl)) tI (fun t2 c2 st2 ok2 w w1 w2 => ?_) (fun hno => absurd ok (hno t c st))⟩
  have et : t2 = t := nI_inj (by have := ok2.1; omega) (by have := ok.1; omega) (by rw [← ok2.2.1, ok.2.1])
  have ec : c2 = c := nI_inj (by have := ok2.2.2.1; omega) (by have := ok.2.2.1; omega) (by rw [← ok2.2.2.2.1, ok.2.2.2.1])
  have es : st2 = st := nI_inj (isSt ok2.2.2.2.2.1).2.2.2 (isSt ok.2.2.2.2.1).2.2.2 (by rw [← ok2.2.2.2.2.2, ok.2.2.2.2.2])
  subst et
  subst ec
  subst es
  refine ⟨rfl, INV.table hC hS hK hP hB hR u1' u2' u3' w2 w1 (fun q cu hq e => ?_)⟩
  by_cases eq : q = t2
  · subst eq
    rw [u1_s] at e
    cases e
    rw [u1_s]
    exact ⟨ok.2.2.1, ok.2.2.2.2.1⟩
  · rw [u1_n eq] at e
    rw [u1_n eq]
    exact tI q cu hq e
theorem n_entry (hI : INV z N ws) : JN (F_X10_entry z x1 x2) (F_X11_entry (z + 62) x1 x2) z N ws := by
  obtain ⟨tk, nc, m, Z, ca, cc, ce, so, wk, vl, kp, hC, ⟨n, cnt, rf, wt, hS⟩, ⟨kc, kv, hK⟩, ⟨pc, pf, pw, pn, pl, pg, hP⟩, ⟨tcu, tst, ta, hT⟩, ⟨sz, A, mv, hB⟩, hR⟩ := id hI
  have hcs := hC.1
  have hmo := hC.2.1
  have hmc := hC.2.2.1
  have hnc := hcs.2.2.2.2.1
  have hwk := hcs.2.2.2.2.2.2
  unfold JN
  obtain ⟨tC, tM, tI⟩ := id hT
  refine c_entry hcs.1 tC tI (fun t c k ht e hc hk ek => ⟨⟨_, hmo⟩, m_entry hmo hnc tM tI (fun t2 c2 k2 ht2 e2 hc2 hk2 ek2 => ?_) (fun hno => absurd ek (hno t c k ht e hc hk))⟩) (fun hno => ⟨⟨_, hmo⟩, m_entry hmo hnc tM tI (fun t c k ht e hc hk ek => absurd ek (hno t c k ht e hc hk)) (fun _ => ⟨rfl, hI.same⟩)⟩)
  have et : t2 = t := nI_inj (by omega) (by omega) (by rw [← e2, e])
  subst et
  rw [hc] at hc2
  cases hc2
  have hb := (en_b (tI t2 c ht hc).2).1
  have ekk : k2 = k := nI_inj (by omega) (by omega) (by rw [← ek2, ek])
  subst ekk
  exact ⟨rfl, hI.same⟩
theorem tb_bad {tcu : Nat → Option Nat} {t c : Nat} (ht : t < 4) (e : x1 = nI t) (hc : tcu t = some c) : ¬ ((x1 < 0 ∨ nI 4 ≤ x1) ∨ ∃ t, t < 4 ∧ x1 = nI t ∧ tcu t = none) := by
  intro h
  rcases h with h | ⟨q, q1, q2, q3⟩
  · exact no_ix h ht (by decide) e
  · have eq : q = t := nI_inj (by omega) (by omega) (by rw [← q2, e])
    rw [eq, hc] at q3
    cases q3
theorem n_lookup (hI : INV z N ws) : JN (F_X10_lookup z x1 x2) (F_X11_lookup (z + 62) x1 x2) z N ws := by
  obtain ⟨tk, nc, m, Z, ca, cc, ce, so, wk, vl, kp, hC, ⟨n, cnt, rf, wt, hS⟩, ⟨kc, kv, hK⟩, ⟨pc, pf, pw, pn, pl, pg, hP⟩, ⟨tcu, tst, ta, hT⟩, ⟨sz, A, mv, hB⟩, hR⟩ := id hI
  have hcs := hC.1
  have hmo := hC.2.1
  have hmc := hC.2.2.1
  have hnc := hcs.2.2.2.2.1
  have hwk := hcs.2.2.2.2.2.2
  unfold JN
  obtain ⟨tC, tM, tI⟩ := id hT
  refine c_lookup hcs.1 tC tI (fun t c x ht e hc hx ex => ⟨⟨_, hmo⟩, m_lookup hmo hnc tM tI (fun t2 c2 y ht2 e2 hc2 hy ey => ?_) (fun hno => ?_)⟩) (fun hno => ⟨⟨_, hmo⟩, m_lookup hmo hnc tM tI (fun t c x ht e hc hx ex => ?_) (fun _ => ⟨rfl, hI.same⟩)⟩)
  · have et : t2 = t := nI_inj (by omega) (by omega) (by rw [← e2, e])
    subst et
    rw [hc] at hc2
    cases hc2
    have exx : y = x := nI_inj (by omega) (by omega) (by rw [← ey, ex])
    subst exx
    exact ⟨rfl, hI.same⟩
  · rcases hno with h | h
    · exact absurd h (tb_bad ht e hc)
    · exact absurd (isCt_ix.mpr ⟨x, hx, ex⟩) h
  · rcases hno with h | h
    · exact absurd h (tb_bad ht e hc)
    · exact absurd (isCt_ix.mpr ⟨x, hx, ex⟩) h
theorem n_off (hI : INV z N ws) : JN (F_X10_off z x1) (F_X11_off (z + 62) x1) z N ws := by
  obtain ⟨tk, nc, m, Z, ca, cc, ce, so, wk, vl, kp, hC, ⟨n, cnt, rf, wt, hS⟩, ⟨kc, kv, hK⟩, ⟨pc, pf, pw, pn, pl, pg, hP⟩, ⟨tcu, tst, ta, hT⟩, ⟨sz, A, mv, hB⟩, hR⟩ := id hI
  have hcs := hC.1
  have hmo := hC.2.1
  have hmc := hC.2.2.1
  have hnc := hcs.2.2.2.2.1
  have hwk := hcs.2.2.2.2.2.2
  unfold JN
  obtain ⟨tC, tM, tI⟩ := id hT
  have hz4 : Z (z + 4) = 1 := hC.2.2.2.1 _ (by omega) (by omega) (by omega)
  refine c_off hcs tC tI hz4 (fun t c ht e hc u Z2 kp2 u1' u2' u3' u4' u5' u6' => ?_) (fun hno => ⟨⟨_, hmo⟩, m_off hmo hmc hnc tM tI (fun t c ht e hc => absurd hno (tb_bad ht e hc)) (fun _ => ⟨rfl, hI.same⟩)⟩)
  obtain ⟨i1, i2, i3, i4⟩ := INV.ask hC hS hK hP hT hB hR u1' u3' u4' u2' u5' u6'
  refine ⟨⟨_, i2⟩, m_off i2 i3 hnc i4 tI (fun t2 c2 ht2 e2 hc2 => ?_) (fun hno => absurd hno (tb_bad ht e hc))⟩
  have et : t2 = t := nI_inj (by omega) (by omega) (by rw [← e2, e])
  subst et
  rw [hc] at hc2
  cases hc2
  exact ⟨rfl, i1⟩
theorem n_offAt (hI : INV z N ws) : JN (F_X10_offAt z x1) (F_X11_offAt (z + 62) x1) z N ws := by
  obtain ⟨tk, nc, m, Z, ca, cc, ce, so, wk, vl, kp, hC, ⟨n, cnt, rf, wt, hS⟩, ⟨kc, kv, hK⟩, ⟨pc, pf, pw, pn, pl, pg, hP⟩, ⟨tcu, tst, ta, hT⟩, ⟨sz, A, mv, hB⟩, hR⟩ := id hI
  have hcs := hC.1
  have hmo := hC.2.1
  have hmc := hC.2.2.1
  have hnc := hcs.2.2.2.2.1
  have hwk := hcs.2.2.2.2.2.2
  unfold JN
  obtain ⟨tC, tM, tI⟩ := id hT
  have hz4 : Z (z + 4) = 1 := hC.2.2.2.1 _ (by omega) (by omega) (by omega)
  refine c_offAt hcs tC tI hz4 (fun t c ht e hc u Z2 kp2 u1' u2' u3' u4' u5' u6' => ?_) (fun hno => ⟨⟨_, hmo⟩, m_offAt hmo hmc hnc tM tI (fun t c ht e hc => absurd hno (tb_bad ht e hc)) (fun _ => ⟨rfl, hI.same⟩)⟩)
  obtain ⟨i1, i2, i3, i4⟩ := INV.ask hC hS hK hP hT hB hR u1' u3' u4' u2' u5' u6'
  refine ⟨⟨_, i2⟩, m_offAt i2 i3 hnc i4 tI (fun t2 c2 ht2 e2 hc2 => ?_) (fun hno => absurd hno (tb_bad ht e hc))⟩
  have et : t2 = t := nI_inj (by omega) (by omega) (by rw [← e2, e])
  subst et
  rw [hc] at hc2
  cases hc2
  exact ⟨rfl, i1⟩
theorem n_bank (hI : INV z N ws) : JN (F_X10_bank z x1 x2) (F_X11_bank (z + 62) x1 x2) z N ws := by
  obtain ⟨tk, nc, m, Z, ca, cc, ce, so, wk, vl, kp, hC, ⟨n, cnt, rf, wt, hS⟩, ⟨kc, kv, hK⟩, ⟨pc, pf, pw, pn, pl, pg, hP⟩, ⟨tcu, tst, ta, hT⟩, ⟨sz, A, mv, hB⟩, hR⟩ := id hI
  have hcs := hC.1
  have hmo := hC.2.1
  have hmc := hC.2.2.1
  have hnc := hcs.2.2.2.2.1
  have hwk := hcs.2.2.2.2.2.2
  unfold JN
  obtain ⟨bA, bM, bI, bV⟩ := id hB
  refine c_bank hcs.1 bA (fun b k hb e hk ek t A2 t1 t2 t3 t4 => ?_) (fun b hb e hng => ⟨⟨_, hmo⟩, m_bank hmo bM (fun b2 k hb2 e2 hk ek => ?_) (fun b2 hb2 e2 _ => ⟨rfl, hI.same⟩) (fun hno => ?_)⟩) (fun hno => ⟨⟨_, hmo⟩, m_bank hmo bM (fun b k hb e hk ek => ?_) (fun b hb e hng => ?_) (fun _ => ⟨rfl, hI.same⟩)⟩)
  · have hmt : MO t.1 (z + 62) nc m := (t2.1 _ (by omega)).trans hmo
    refine ⟨⟨_, hmt⟩, m_bank hmt (bM.keep (fun q a b => t2.1 q (by omega))) (fun b2 k2 hb2 e2 hk2 ek2 u u1' u2' => ?_) (fun b2 hb2 e2 hng => ?_) (fun hno => ?_)⟩
    · have eb : b2 = b := nI_inj (by omega) (by omega) (by rw [← e2, e])
      have ekk : k2 = k := nI_inj (by omega) (by omega) (by rw [← ek2, ek])
      subst eb
      subst ekk
      refine ⟨rfl, INV.bank hC hS hK hP hT hR (fun q a b => (u2'.1 q (by omega)).trans (t2.1 q (by omega))) (u2'.2.trans t2.2) (t1.keep (fun q a b => u2'.1 q (by omega))) u1' (fun q hq => ?_) (fun q i hq hi hlt => ?_)⟩
      · by_cases eq : q = b2
        · rw [eq, pk_us]
          exact Or.inr ⟨k2, hk, rfl⟩
        · rw [pk_un eq]
          exact bI q hq
      · by_cases eq : q = b2
        · subst eq
          rw [pk_us] at hlt
          rw [u1_s]
          exact t3 i ((nI_ltI (by omega) (by omega)).mp hlt)
        · rw [pk_un eq] at hlt
          rw [u1_n eq]
          exact t4 q i _ hq eq (bV q i hq hi hlt)
    · rw [ek] at hng
      exact absurd (nI_pos' (by omega)) hng
    · rcases hno with h | h
      · exact absurd e (fun e => no_ix h hb (by decide) e)
      · rw [ek] at h
        exact absurd (nI_le (a := k) (b := 64) hk (by decide)) h
  · rw [ek] at hng
    exact absurd (nI_pos' (by omega)) hng
  · rcases hno with h | h
    · exact absurd e (fun e => no_ix h hb (by decide) e)
    · exact absurd (Int32.le_trans (Int32.le_of_lt (Int32.not_le.mp hng)) (by decide)) h
  · rcases hno with h | h
    · exact absurd e (fun e => no_ix h hb (by decide) e)
    · rw [ek] at h
      exact absurd (nI_le (a := k) (b := 64) hk (by decide)) h
  · rcases hno with h | h
    · exact absurd e (fun e => no_ix h hb (by decide) e)
    · exact absurd (Int32.le_trans (Int32.le_of_lt (Int32.not_le.mp hng)) (by decide)) h
theorem n_free (hI : INV z N ws) : JN (F_X10_free z x1) (F_X11_free (z + 62) x1) z N ws := by
  obtain ⟨tk, nc, m, Z, ca, cc, ce, so, wk, vl, kp, hC, ⟨n, cnt, rf, wt, hS⟩, ⟨kc, kv, hK⟩, ⟨pc, pf, pw, pn, pl, pg, hP⟩, ⟨tcu, tst, ta, hT⟩, ⟨sz, A, mv, hB⟩, hR⟩ := id hI
  have hcs := hC.1
  have hmo := hC.2.1
  have hmc := hC.2.2.1
  have hnc := hcs.2.2.2.2.1
  have hwk := hcs.2.2.2.2.2.2
  unfold JN
  obtain ⟨bA, bM, bI, bV⟩ := id hB
  refine c_free hcs.1 bA (fun b hb e t t1 t2 => ?_) (fun hno => ⟨⟨_, hmo⟩, m_free hmo bM (fun b hb e => absurd e (fun e => no_ix hno hb (by decide) e)) (fun _ => ⟨rfl, hI.same⟩)⟩)
  have hmt : MO t.1 (z + 62) nc m := (t2.1 _ (by omega)).trans hmo
  refine ⟨⟨_, hmt⟩, m_free hmt (bM.keep (fun q a b => t2.1 q (by omega))) (fun b2 hb2 e2 u u1' u2' => ?_) (fun hno => absurd e (fun e => no_ix hno hb (by decide) e))⟩
  have eb : b2 = b := nI_inj (by omega) (by omega) (by rw [← e2, e])
  subst eb
  refine ⟨rfl, INV.bank hC hS hK hP hT hR (fun q a b => (u2'.1 q (by omega)).trans (t2.1 q (by omega))) (u2'.2.trans t2.2) (t1.keep (fun q a b => u2'.1 q (by omega))) u1' (fun q hq => ?_) (fun q i hq hi hlt => ?_)⟩
  · by_cases eq : q = b2
    · rw [eq, pk_us]
      exact Or.inl rfl
    · rw [pk_un eq]
      exact bI q hq
  · by_cases eq : q = b2
    · rw [eq, pk_us] at hlt
      exact absurd (Int32.lt_trans hlt (by decide)) (nI_pos (by omega))
    · rw [pk_un eq] at hlt
      exact bV q i hq hi hlt
theorem hd_one {sz : Nat → Int32} {b b2 : Nat} (hb : b < 8) (e : x1 = nI b) (hb2 : b2 < 8) (e2 : x1 = nI b2) : b2 = b := nI_inj (by omega) (by omega) (by rw [← e2, e])
theorem n_hold (hI : INV z N ws) : JN (F_X10_hold z x1 x2 v) (F_X11_hold (z + 62) x1 x2 v) z N ws := by
  obtain ⟨tk, nc, m, Z, ca, cc, ce, so, wk, vl, kp, hC, ⟨n, cnt, rf, wt, hS⟩, ⟨kc, kv, hK⟩, ⟨pc, pf, pw, pn, pl, pg, hP⟩, ⟨tcu, tst, ta, hT⟩, ⟨sz, A, mv, hB⟩, hR⟩ := id hI
  have hcs := hC.1
  have hmo := hC.2.1
  have hmc := hC.2.2.1
  have hnc := hcs.2.2.2.2.1
  have hwk := hcs.2.2.2.2.2.2
  unfold JN
  obtain ⟨bA, bM, bI, bV⟩ := id hB
  have hone : ∀ b b2, b < 8 → x1 = nI b → b2 < 8 → x1 = nI b2 → b2 = b := fun b b2 a c d e => nI_inj (by omega) (by omega) (by rw [← e, c])
  have hok : ∀ b i, b < 8 → x1 = nI b → i < 64 → x2 = nI i → nI i < sz b → ∀ b2, b2 < 8 → x1 = nI b2 → ¬ sz b2 < 0 ∧ ¬ (x2 < 0 ∨ sz b2 ≤ x2) := by
    intro b i a c d e f b2 g h
    have eb := hone b b2 a c g h
    subst eb
    refine ⟨fun hh => nI_pos (n := i) (by omega) (Int32.lt_trans f hh), fun hh => ?_⟩
    rw [e] at hh
    rcases hh with hh | hh
    · exact nI_pos (by omega) hh
    · exact absurd f (Int32.not_lt.mpr hh)
  refine c_hold hcs.1 bA bI (fun b i hb e hi ei hlt t A2 t1 t2 t3 t4 => ?_) (fun b hb e n0 n1 => ⟨⟨_, hmo⟩, m_hold hmo bM bI (fun b2 i2 hb2 e2 hi2 ei2 hlt2 => absurd n1 (hok b2 i2 hb2 e2 hi2 ei2 hlt2 b hb e).2) (fun b2 hb2 e2 _ _ => ⟨rfl, hI.same⟩) (fun b2 hb2 e2 h => absurd h (by rw [hone b b2 hb e hb2 e2]; exact n0)) (fun hno => absurd e (fun e => no_ix hno hb (by decide) e))⟩) (fun b hb e n0 => ⟨⟨_, hmo⟩, m_hold hmo bM bI (fun b2 i2 hb2 e2 hi2 ei2 hlt2 => absurd n0 (hok b2 i2 hb2 e2 hi2 ei2 hlt2 b hb e).1) (fun b2 hb2 e2 h _ => absurd n0 (by rw [← hone b b2 hb e hb2 e2]; exact h)) (fun b2 hb2 e2 _ => ⟨rfl, hI.same⟩) (fun hno => absurd e (fun e => no_ix hno hb (by decide) e))⟩) (fun hno => ⟨⟨_, hmo⟩, m_hold hmo bM bI (fun b i hb e => absurd e (fun e => no_ix hno hb (by decide) e)) (fun b hb e => absurd e (fun e => no_ix hno hb (by decide) e)) (fun b hb e => absurd e (fun e => no_ix hno hb (by decide) e)) (fun _ => ⟨rfl, hI.same⟩)⟩)
  have hmt : MO t.1 (z + 62) nc m := (t2.1 _ (by omega)).trans hmo
  refine ⟨⟨_, hmt⟩, m_hold hmt (bM.keep (fun q a b => t2.1 q (by omega))) bI (fun b2 i2 hb2 e2 hi2 ei2 hlt2 u u1' u2' => ?_) (fun b2 hb2 e2 _ h => absurd h (hok b i hb e hi ei hlt b2 hb2 e2).2) (fun b2 hb2 e2 h => absurd h (hok b i hb e hi ei hlt b2 hb2 e2).1) (fun hno => absurd e (fun e => no_ix hno hb (by decide) e))⟩
  have eb := hone b b2 hb e hb2 e2
  have eii : i2 = i := nI_inj (by omega) (by omega) (by rw [← ei2, ei])
  subst eb
  subst eii
  refine ⟨rfl, INV.bank hC hS hK hP hT hR (fun q a b => (u2'.1 q (by omega)).trans (t2.1 q (by omega))) (u2'.2.trans t2.2) (t1.keep (fun q a b => u2'.1 q (by omega))) u1' bI (fun q j hq hj hl => ?_)⟩
  unfold u2
  by_cases eq : q = b2 ∧ j = i2
  · rw [if_pos eq, eq.1, eq.2]
    exact t3
  · rw [if_neg eq]
    exact t4 q j _ hq (by omega) (bV q j hq hj hl)
theorem n_held (hI : INV z N ws) : JN (F_X10_held z x1 x2) (F_X11_held (z + 62) x1 x2) z N ws := by
  obtain ⟨tk, nc, m, Z, ca, cc, ce, so, wk, vl, kp, hC, ⟨n, cnt, rf, wt, hS⟩, ⟨kc, kv, hK⟩, ⟨pc, pf, pw, pn, pl, pg, hP⟩, ⟨tcu, tst, ta, hT⟩, ⟨sz, A, mv, hB⟩, hR⟩ := id hI
  have hcs := hC.1
  have hmo := hC.2.1
  have hmc := hC.2.2.1
  have hnc := hcs.2.2.2.2.1
  have hwk := hcs.2.2.2.2.2.2
  unfold JN
  obtain ⟨bA, bM, bI, bV⟩ := id hB
  have hone : ∀ b b2, b < 8 → x1 = nI b → b2 < 8 → x1 = nI b2 → b2 = b := fun b b2 a c d e => nI_inj (by omega) (by omega) (by rw [← e, c])
  have hok : ∀ b i, b < 8 → x1 = nI b → i < 64 → x2 = nI i → nI i < sz b → ∀ b2, b2 < 8 → x1 = nI b2 → ¬ sz b2 < 0 ∧ ¬ (x2 < 0 ∨ sz b2 ≤ x2) := by
    intro b i a c d e f b2 g h
    have eb := hone b b2 a c g h
    subst eb
    refine ⟨fun hh => nI_pos (n := i) (by omega) (Int32.lt_trans f hh), fun hh => ?_⟩
    rw [e] at hh
    rcases hh with hh | hh
    · exact nI_pos (by omega) hh
    · exact absurd f (Int32.not_lt.mpr hh)
  refine c_held hcs.1 bA bI bV (fun b i hb e hi ei hlt => ⟨⟨_, hmo⟩, m_held hmo bM bI (fun b2 i2 hb2 e2 hi2 ei2 hlt2 => ?_) (fun b2 hb2 e2 _ h => absurd h (hok b i hb e hi ei hlt b2 hb2 e2).2) (fun b2 hb2 e2 h => absurd h (hok b i hb e hi ei hlt b2 hb2 e2).1) (fun hno => absurd e (fun e => no_ix hno hb (by decide) e))⟩) (fun b hb e n0 n1 => ⟨⟨_, hmo⟩, m_held hmo bM bI (fun b2 i2 hb2 e2 hi2 ei2 hlt2 => absurd n1 (hok b2 i2 hb2 e2 hi2 ei2 hlt2 b hb e).2) (fun b2 hb2 e2 _ _ => ⟨rfl, hI.same⟩) (fun b2 hb2 e2 h => absurd h (by rw [hone b b2 hb e hb2 e2]; exact n0)) (fun hno => absurd e (fun e => no_ix hno hb (by decide) e))⟩) (fun b hb e n0 => ⟨⟨_, hmo⟩, m_held hmo bM bI (fun b2 i2 hb2 e2 hi2 ei2 hlt2 => absurd n0 (hok b2 i2 hb2 e2 hi2 ei2 hlt2 b hb e).1) (fun b2 hb2 e2 h _ => absurd n0 (by rw [← hone b b2 hb e hb2 e2]; exact h)) (fun b2 hb2 e2 _ => ⟨rfl, hI.same⟩) (fun hno => absurd e (fun e => no_ix hno hb (by decide) e))⟩) (fun hno => ⟨⟨_, hmo⟩, m_held hmo bM bI (fun b i hb e => absurd e (fun e => no_ix hno hb (by decide) e)) (fun b hb e => absurd e (fun e => no_ix hno hb (by decide) e)) (fun b hb e => absurd e (fun e => no_ix hno hb (by decide) e)) (fun _ => ⟨rfl, hI.same⟩)⟩)
  have eb := hone b b2 hb e hb2 e2
  have eii : i2 = i := nI_inj (by omega) (by omega) (by rw [← ei2, ei])
  subst eb
  subst eii
  exact ⟨rfl, hI.same⟩
theorem n_count (hI : INV z N ws) : JN (F_X10_count z x1) (F_X11_count (z + 62) x1) z N ws := by
  obtain ⟨tk, nc, m, Z, ca, cc, ce, so, wk, vl, kp, hC, ⟨n, cnt, rf, wt, hS⟩, ⟨kc, kv, hK⟩, ⟨pc, pf, pw, pn, pl, pg, hP⟩, ⟨tcu, tst, ta, hT⟩, ⟨sz, A, mv, hB⟩, hR⟩ := id hI
  have hcs := hC.1
  have hmo := hC.2.1
  have hmc := hC.2.2.1
  have hnc := hcs.2.2.2.2.1
  have hwk := hcs.2.2.2.2.2.2
  unfold JN
  refine hr_mono (c_count hcs.1 hS.1 hS.2.1 hS.2.2.1 hK.1 hT.1 hB.1) (fun r t h => ?_)
  obtain ⟨rfl, rfl⟩ := h
  refine ⟨⟨_, hmo⟩, hr_mono (m_count hmo hnc hS.2.2.2 hS.2.2.1 hT.2.1 hT.2.2 hB.2.1) (fun r2 u h => ?_)⟩
  obtain ⟨rfl, rfl⟩ := h
  exact ⟨rfl, hI.same⟩
end JOIN2
