/-! ===== each call, both objects ===== -/
theorem JN.of {α : Type} {F1 F2 : St α} {z N : Nat} {ws : WS} (h : Hr F1 ws (fun r1 t1 => (∃ fs : List Value, t1.1 (z + 62) = some (.inr (10, fs))) ∧ Hr F2 t1 (fun r2 t2 => r1 = r2 ∧ INV z (N + 1) t2))) : JN F1 F2 z N ws := h
theorem SI.rd {n : Nat → Nat} {cnt rf wt : Nat → Nat → Int32} {x1 x v w : Int32} {s : Nat} (h : SI n cnt rf wt) (hk : okRd n x1 x v w s) : SI (u1 n s (n s + 1)) (u2 cnt s (n s) x) (u2 rf s (n s) v) (u2 wt s (n s) w) := by
  obtain ⟨hs8, -, hx, hv, hw1, hw2, hn⟩ := hk
  intro q hq
  obtain ⟨a, b⟩ := h q hq
  obtain ⟨j, hj, ej⟩ := isCt_ix.mp hx
  have hxi : x.toInt = j := by rw [ej, nI_toInt (by omega)]
  rw [Int32.lt_iff_toInt_lt, Int32.lt_iff_toInt_lt, show (-10000 : Int32).toInt = -10000 from rfl, show (10000 : Int32).toInt = 10000 from rfl] at hv
  rw [Int32.lt_iff_toInt_lt, show (1 : Int32).toInt = 1 from rfl] at hw1
  rw [Int32.lt_iff_toInt_lt, show (20 : Int32).toInt = 20 from rfl] at hw2
  unfold u2
  by_cases e : q = s
  · subst e
    rw [u1_s]
    refine ⟨by omega, fun k hk => ?_⟩
    by_cases ek : k = n q
    · rw [if_pos ⟨rfl, ek⟩, if_pos ⟨rfl, ek⟩, if_pos ⟨rfl, ek⟩]
      omega
    · rw [if_neg (fun h => ek h.2), if_neg (fun h => ek h.2), if_neg (fun h => ek h.2)]
      exact b k (by omega)
  · rw [u1_n e]
    refine ⟨a, fun k hk => ?_⟩
    rw [if_neg (fun h => e h.1), if_neg (fun h => e h.1), if_neg (fun h => e h.1)]
    exact b k hk
theorem SI.dr {n : Nat → Nat} {cnt rf wt : Nat → Nat → Int32} {s i : Nat} (h : SI n cnt rf wt) : SI (u1 n s (n s - 1)) (d2 cnt s i) (d2 rf s i) (d2 wt s i) := by
  intro q hq
  obtain ⟨a, b⟩ := h q hq
  unfold d2
  by_cases e : q = s
  · subst e
    rw [u1_s]
    refine ⟨by omega, fun k hk => ?_⟩
    by_cases ek : i ≤ k
    · rw [if_pos ⟨rfl, ek⟩, if_pos ⟨rfl, ek⟩, if_pos ⟨rfl, ek⟩]
      exact b (k + 1) (by omega)
    · rw [if_neg (fun h => ek h.2), if_neg (fun h => ek h.2), if_neg (fun h => ek h.2)]
      exact b k (by omega)
  · rw [u1_n e]
    refine ⟨a, fun k hk => ?_⟩
    rw [if_neg (fun h => e h.1), if_neg (fun h => e h.1), if_neg (fun h => e h.1)]
    exact b k hk
theorem KI.kn {m : Nat} {kc kv : Nat → Int32} {x v : Int32} (h : KI m kc kv) (hk : okKn m kc x v) : KI (m + 1) (u1 kc m x) (u1 kv m v) := by
  obtain ⟨hx, hl, hv, hm⟩ := hk
  obtain ⟨a, ⟨b1, b2⟩, c⟩ := h
  obtain ⟨j, hj, ej⟩ := isCt_ix.mp hx
  have hxi : x.toInt = j := by rw [ej, nI_toInt (by omega)]
  rw [Int32.lt_iff_toInt_lt, Int32.lt_iff_toInt_lt, show (-10000 : Int32).toInt = -10000 from rfl, show (10000 : Int32).toInt = 10000 from rfl] at hv
  refine ⟨by omega, ⟨fun q hq => ?_, fun p q hpq hq => ?_⟩, fun q hq => ?_⟩
  · by_cases e : q = m
    · rw [e, u1_s]; omega
    · rw [u1_n e]; exact b1 q (by omega)
  · by_cases e : q = m
    · rw [e, u1_s, u1_n (by omega)]
      have h1 := hl (by omega)
      rw [Int32.le_iff_toInt_le] at h1
      by_cases ep : p = m - 1
      · rw [ep]; omega
      · have := b2 p (m - 1) (by omega) (by omega)
        omega
    · rw [u1_n e, u1_n (by omega)]
      exact b2 p q hpq (by omega)
  · by_cases e : q = m
    · rw [e, u1_s]; omega
    · rw [u1_n e]; exact c q (by omega)
section JOIN
variable {z N : Nat} {ws : WS} {x1 x2 x3 x4 : Int32}
theorem n_reading (hI : INV z N ws) : JN (F_X10_reading z x1 x2 x3 x4) (F_X11_reading (z + 62) x1 x2 x3 x4) z N ws := by
  obtain ⟨tk, nc, m, Z, ca, cc, ce, so, wk, vl, kp, hC, ⟨n, cnt, rf, wt, hS⟩, ⟨kc, kv, hK⟩, ⟨pc, pf, pw, pn, pl, pg, hP⟩, ⟨tcu, tst, ta, hT⟩, ⟨sz, A, mv, hB⟩, hR⟩ := id hI
  have hcs := hC.1
  have hmo := hC.2.1
  have hmc := hC.2.2.1
  have hnc := hcs.2.2.2.2.1
  have hwk := hcs.2.2.2.2.2.2
  unfold JN
  obtain ⟨sA, sC, sI, sM⟩ := id hS
  refine c_reading hcs.1 sA sC sI (fun s ok t t1 t2 => ?_) (fun hno => ⟨⟨_, hmo⟩, m_reading hmo sM sI (fun s ok => absurd ok (hno s)) (fun _ => ⟨rfl, hI.same⟩)⟩)
  have hmt : MO t.1 (z + 62) nc m := (t2.1 _ (by omega)).trans hmo
  refine ⟨⟨_, hmt⟩, m_reading hmt (sM.keep (fun q a b => t2.1 q (by omega))) sI (fun s2 ok2 u u1' u2' => ?_) (fun hno => absurd ok (hno s))⟩
  have es : s2 = s := nI_inj (by have := ok2.1; omega) (by have := ok.1; omega) (by rw [← ok2.2.1, ok.2.1])
  subst es
  refine ⟨rfl, INV.sens hC hS hK hP hT hB hR (fun q a b => (u2'.1 q (by omega)).trans (t2.1 q (by omega))) (u2'.2.trans t2.2) (t1.keep (fun q a b => u2'.1 q (by omega))) (sI.rd ok) u1'⟩
theorem n_drop (hI : INV z N ws) : JN (F_X10_drop z x1 x2) (F_X11_drop (z + 62) x1 x2) z N ws := by
  obtain ⟨tk, nc, m, Z, ca, cc, ce, so, wk, vl, kp, hC, ⟨n, cnt, rf, wt, hS⟩, ⟨kc, kv, hK⟩, ⟨pc, pf, pw, pn, pl, pg, hP⟩, ⟨tcu, tst, ta, hT⟩, ⟨sz, A, mv, hB⟩, hR⟩ := id hI
  have hcs := hC.1
  have hmo := hC.2.1
  have hmc := hC.2.2.1
  have hnc := hcs.2.2.2.2.1
  have hwk := hcs.2.2.2.2.2.2
  unfold JN
  obtain ⟨sA, sC, sI, sM⟩ := id hS
  refine c_drop hcs.1 sA sC sI (fun s i ok t t1 t2 => ?_) (fun hno => ⟨⟨_, hmo⟩, m_drop hmo sM sI (fun s i ok => absurd ok (hno s i)) (fun _ => ⟨rfl, hI.same⟩)⟩)
  have hmt : MO t.1 (z + 62) nc m := (t2.1 _ (by omega)).trans hmo
  refine ⟨⟨_, hmt⟩, m_drop hmt (sM.keep (fun q a b => t2.1 q (by omega))) sI (fun s2 i2 ok2 u u1' u2' => ?_) (fun hno => absurd ok (hno s i))⟩
  have es : s2 = s := nI_inj (by have := ok2.1; omega) (by have := ok.1; omega) (by rw [← ok2.2.1, ok.2.1])
  subst es
  have hn24 := (sI s2 ok.1).1
  have ei : i2 = i := nI_inj (by have := ok2.2.2.1; omega) (by have := ok.2.2.1; omega) (by rw [← ok2.2.2.2, ok.2.2.2])
  subst ei
  refine ⟨rfl, INV.sens hC hS hK hP hT hB hR (fun q a b => (u2'.1 q (by omega)).trans (t2.1 q (by omega))) (u2'.2.trans t2.2) (t1.keep (fun q a b => u2'.1 q (by omega))) sI.dr u1'⟩
theorem n_readings (hI : INV z N ws) : JN (F_X10_readings z x1) (F_X11_readings (z + 62) x1) z N ws := by
  obtain ⟨tk, nc, m, Z, ca, cc, ce, so, wk, vl, kp, hC, ⟨n, cnt, rf, wt, hS⟩, ⟨kc, kv, hK⟩, ⟨pc, pf, pw, pn, pl, pg, hP⟩, ⟨tcu, tst, ta, hT⟩, ⟨sz, A, mv, hB⟩, hR⟩ := id hI
  have hcs := hC.1
  have hmo := hC.2.1
  have hmc := hC.2.2.1
  have hnc := hcs.2.2.2.2.1
  have hwk := hcs.2.2.2.2.2.2
  unfold JN
  obtain ⟨sA, sC, sI, sM⟩ := id hS
  refine c_readings hcs.1 sA sC (fun s hs e => ⟨⟨_, hmo⟩, m_readings hmo sM (fun s2 hs2 e2 => ?_) (fun hno => absurd e (fun e => no_ix hno hs (by decide) e))⟩) (fun hno => ⟨⟨_, hmo⟩, m_readings hmo sM (fun s hs e => absurd e (fun e => no_ix hno hs (by decide) e)) (fun _ => ⟨rfl, hI.same⟩)⟩)
  have es : s2 = s := nI_inj (by omega) (by omega) (by rw [← e2, e])
  subst es
  exact ⟨rfl, hI.same⟩
theorem n_knot (hI : INV z N ws) : JN (F_X10_knot z x1 x2) (F_X11_knot (z + 62) x1 x2) z N ws := by
  obtain ⟨tk, nc, m, Z, ca, cc, ce, so, wk, vl, kp, hC, ⟨n, cnt, rf, wt, hS⟩, ⟨kc, kv, hK⟩, ⟨pc, pf, pw, pn, pl, pg, hP⟩, ⟨tcu, tst, ta, hT⟩, ⟨sz, A, mv, hB⟩, hR⟩ := id hI
  have hcs := hC.1
  have hmo := hC.2.1
  have hmc := hC.2.2.1
  have hnc := hcs.2.2.2.2.1
  have hwk := hcs.2.2.2.2.2.2
  unfold JN
  obtain ⟨kC, kM, kI⟩ := id hK
  have ho := hC.out
  have hl := hC.2.2.2.2.2
  have hot := fun q a b => ho.2.1 q a b
  refine c_knot hcs.1 kC kI.1 hl (fun ok t t1 t2 => ?_) (fun hno => ⟨⟨_, hmo⟩, m_knot hmo kM kI.1 (fun ok => absurd ok hno) (fun _ => ⟨rfl, hI.same⟩)⟩)
  have h62 : t.1 (z + 62) = ws.1 (z + 62) := t2.1 _ (by have := hot tk (by omega) (by omega); have := hot (tk + 1) (by omega) (by omega); have := hot (tk + 2) (by omega) (by omega); omega)
  have hmt : MO t.1 (z + 62) nc m := h62.trans hmo
  refine ⟨⟨_, hmt⟩, m_knot hmt (kM.keep (fun q a b => t2.1 q (by have := hot tk (by omega) (by omega); have := hot (tk + 1) (by omega) (by omega); have := hot (tk + 2) (by omega) (by omega); omega))) kI.1 (fun ok2 u u1' u2' u3' u4' => ?_) (fun hno => absurd ok hno)⟩
  refine ⟨rfl, INV.knot hC hS hP hT hB hR (fun q a b c => (u3' q b (by omega) (by omega)).trans (t2.1 q (by omega))) (u4'.trans t2.2) u1' ⟨t1.keep (fun q a b => u3' q ?_ ?_ ?_), u2', kI.kn ok⟩⟩
  · have := hot q a b; omega
  · have := hot q a b; omega
  · have := hot q a b; omega
theorem n_hush (hI : INV z N ws) : JN (F_X10_hush z) (F_X11_hush (z + 62)) z N ws := by
  obtain ⟨tk, nc, m, Z, ca, cc, ce, so, wk, vl, kp, hC, ⟨n, cnt, rf, wt, hS⟩, ⟨kc, kv, hK⟩, ⟨pc, pf, pw, pn, pl, pg, hP⟩, ⟨tcu, tst, ta, hT⟩, ⟨sz, A, mv, hB⟩, hR⟩ := id hI
  have hcs := hC.1
  have hmo := hC.2.1
  have hmc := hC.2.2.1
  have hnc := hcs.2.2.2.2.1
  have hwk := hcs.2.2.2.2.2.2
  unfold JN
  obtain ⟨kC, kM, kI⟩ := id hK
  have ho := hC.out
  have hot := fun q a b => ho.2.1 q a b
  refine c_hush hcs.1 kC (fun t t1 t2 => ?_)
  have hr : ∀ q, z + 62 ≤ q → q < z + 83 → t.1 q = ws.1 q := fun q a b => t2.1 q (by have := hot tk (by omega) (by omega); have := hot (tk + 1) (by omega) (by omega); have := hot (tk + 2) (by omega) (by omega); omega)
  have hmt : MO t.1 (z + 62) nc m := (hr _ (by omega) (by omega)).trans hmo
  refine ⟨⟨_, hmt⟩, m_hush hmt (fun u u1' u2' u3' => ?_)⟩
  obtain ⟨fc, fv, g1, g2, -⟩ := kM
  refine ⟨rfl, INV.knot hC hS hP hT hB hR (fun q a b c => (u2' q b).trans (t2.1 q (by omega))) (u3'.trans t2.2) u1' ⟨t1.keep (fun q a b => u2' q ?_), ⟨fc, fv, (u2' _ (by omega)).trans ((hr _ (by omega) (by omega)).trans g1), (u2' _ (by omega)).trans ((hr _ (by omega) (by omega)).trans g2), fun j h => absurd h (Nat.not_lt_zero _)⟩, by omega, ⟨fun j h => absurd h (Nat.not_lt_zero _), fun i j _ h => absurd h (Nat.not_lt_zero _)⟩, fun j h => absurd h (Nat.not_lt_zero _)⟩⟩
  have := hot q a b
  omega
theorem n_gather (hI : INV z N ws) : JN (F_X10_gather z x1) (F_X11_gather (z + 62) x1) z N ws := by
  obtain ⟨tk, nc, m, Z, ca, cc, ce, so, wk, vl, kp, hC, ⟨n, cnt, rf, wt, hS⟩, ⟨kc, kv, hK⟩, ⟨pc, pf, pw, pn, pl, pg, hP⟩, ⟨tcu, tst, ta, hT⟩, ⟨sz, A, mv, hB⟩, hR⟩ := id hI
  have hcs := hC.1
  have hmo := hC.2.1
  have hmc := hC.2.2.1
  have hnc := hcs.2.2.2.2.1
  have hwk := hcs.2.2.2.2.2.2
  unfold JN
  obtain ⟨sA, sC, sI, sM⟩ := id hS
  obtain ⟨kC, kM, kI⟩ := id hK
  have ho := hC.out
  have hl := hC.2.2.2.2.2
  have hot := fun q a b => ho.2.1 q a b
  refine c_gather hcs.1 sA sC sI kC hl (fun q a b h => by have := hot q a b; omega) (fun s hs e t t1 t2 => ?_) (fun hno => ⟨⟨_, hmo⟩, m_gather hmo sM sI kM (fun s hs e => absurd e (fun e => no_ix hno hs (by decide) e)) (fun _ => ⟨rfl, hI.same⟩)⟩)
  have hr : ∀ q, z + 62 ≤ q → q < z + 83 → t.1 q = ws.1 q := fun q a b => t2.1 q (by have := hot tk (by omega) (by omega); have := hot (tk + 1) (by omega) (by omega); have := hot (tk + 2) (by omega) (by omega); omega)
  have hmt : MO t.1 (z + 62) nc m := (hr _ (by omega) (by omega)).trans hmo
  refine ⟨⟨_, hmt⟩, m_gather hmt (sM.keep (fun q a b => hr q (by omega) (by omega))) sI (kM.keep (fun q a b => hr q (by omega) (by omega))) (fun s2 hs2 e2 u u1' u2' u3' => ?_) (fun hno => absurd e (fun e => no_ix hno hs (by decide) e))⟩
  have es : s2 = s := nI_inj (by omega) (by omega) (by rw [← e2, e])
  subst es
  refine ⟨rfl, INV.knot hC hS hP hT hB hR (fun q a b c => (u3'.1 q b (by omega) (by omega)).trans (t2.1 q (by omega))) (u3'.2.trans t2.2) u1' ⟨t1.keep (fun q a b => u3'.1 q ?_ ?_ ?_), u2', gk_ki (si_g sI hs)⟩⟩
  · have := hot q a b; omega
  · have := hot q a b; omega
  · have := hot q a b; omega
theorem n_clamp (hI : INV z N ws) : JN (F_X10_clamp z x1 x2 x3) (F_X11_clamp (z + 62) x1 x2 x3) z N ws := by
  obtain ⟨tk, nc, m, Z, ca, cc, ce, so, wk, vl, kp, hC, ⟨n, cnt, rf, wt, hS⟩, ⟨kc, kv, hK⟩, ⟨pc, pf, pw, pn, pl, pg, hP⟩, ⟨tcu, tst, ta, hT⟩, ⟨sz, A, mv, hB⟩, hR⟩ := id hI
  have hcs := hC.1
  have hmo := hC.2.1
  have hmc := hC.2.2.1
  have hnc := hcs.2.2.2.2.1
  have hwk := hcs.2.2.2.2.2.2
  unfold JN
  refine c_clamp hcs (fun c ok t Z2 ca2 cc2 ce2 kp2 t1 t2 => ?_) (fun hno => ⟨⟨_, hmo⟩, m_clamp hmo hmc hnc hwk (fun c ok => absurd ok (hno c)) (fun _ => ⟨rfl, hI.same⟩)⟩)
  have hst : ∀ q, z + 62 ≤ q → q < z + 83 → t.1 q = ws.1 q := fun q a b => t2.2.2.1 q (by rw [hC.2.2.2.1 q (by omega) (by omega) (by omega)]; decide) (by omega) (by omega)
  have hmt : MO t.1 (z + 62) nc m := (hst _ (by omega) (by omega)).trans hmo
  refine ⟨⟨_, hmt⟩, m_clamp hmt (hmc.keep (fun q a b => hst q (by omega) (by omega))) hnc hwk (fun c2 ok2 u u1' u2' u3' => ?_) (fun hno => absurd ok (hno c))⟩
  have es : c2 = c := nI_inj (by have := ok2.1; omega) (by have := ok.1; omega) (by rw [← ok2.2.1, ok.2.1])
  subst es
  exact ⟨rfl, INV.new hC hS hK hP hT hB hR t1 t2 u1' u2' u3'⟩
theorem n_dead (hI : INV z N ws) : JN (F_X10_dead z x1 x2 x3 x4) (F_X11_dead (z + 62) x1 x2 x3 x4) z N ws := by
  obtain ⟨tk, nc, m, Z, ca, cc, ce, so, wk, vl, kp, hC, ⟨n, cnt, rf, wt, hS⟩, ⟨kc, kv, hK⟩, ⟨pc, pf, pw, pn, pl, pg, hP⟩, ⟨tcu, tst, ta, hT⟩, ⟨sz, A, mv, hB⟩, hR⟩ := id hI
  have hcs := hC.1
  have hmo := hC.2.1
  have hmc := hC.2.2.1
  have hnc := hcs.2.2.2.2.1
  have hwk := hcs.2.2.2.2.2.2
  unfold JN
  refine c_dead hcs (fun c ok t Z2 ca2 cc2 ce2 kp2 t1 t2 => ?_) (fun hno => ⟨⟨_, hmo⟩, m_dead hmo hmc hnc hwk (fun c ok => absurd ok (hno c)) (fun _ => ⟨rfl, hI.same⟩)⟩)
  have hst : ∀ q, z + 62 ≤ q → q < z + 83 → t.1 q = ws.1 q := fun q a b => t2.2.2.1 q (by rw [hC.2.2.2.1 q (by omega) (by omega) (by omega)]; decide) (by omega) (by omega)
  have hmt : MO t.1 (z + 62) nc m := (hst _ (by omega) (by omega)).trans hmo
  refine ⟨⟨_, hmt⟩, m_dead hmt (hmc.keep (fun q a b => hst q (by omega) (by omega))) hnc hwk (fun c2 ok2 u u1' u2' u3' => ?_) (fun hno => absurd ok (hno c))⟩
  have es : c2 = c := nI_inj (by have := ok2.1; omega) (by have := ok.1; omega) (by rw [← ok2.2.1, ok.2.1])
  subst es
  exact ⟨rfl, INV.new hC hS hK hP hT hB hR t1 t2 u1' u2' u3'⟩
theorem n_gain (hI : INV z N ws) : JN (F_X10_gain z x1 x2 x3 x4) (F_X11_gain (z + 62) x1 x2 x3 x4) z N ws := by
  obtain ⟨tk, nc, m, Z, ca, cc, ce, so, wk, vl, kp, hC, ⟨n, cnt, rf, wt, hS⟩, ⟨kc, kv, hK⟩, ⟨pc, pf, pw, pn, pl, pg, hP⟩, ⟨tcu, tst, ta, hT⟩, ⟨sz, A, mv, hB⟩, hR⟩ := id hI
  have hcs := hC.1
  have hmo := hC.2.1
  have hmc := hC.2.2.1
  have hnc := hcs.2.2.2.2.1
  have hwk := hcs.2.2.2.2.2.2
  unfold JN
  refine c_gain hcs (fun c ok t Z2 ca2 cc2 ce2 kp2 t1 t2 => ?_) (fun hno => ⟨⟨_, hmo⟩, m_gain hmo hmc hnc hwk (fun c ok => absurd ok (hno c)) (fun _ => ⟨rfl, hI.same⟩)⟩)
  have hst : ∀ q, z + 62 ≤ q → q < z + 83 → t.1 q = ws.1 q := fun q a b => t2.2.2.1 q (by rw [hC.2.2.2.1 q (by omega) (by omega) (by omega)]; decide) (by omega) (by omega)
  have hmt : MO t.1 (z + 62) nc m := (hst _ (by omega) (by omega)).trans hmo
  refine ⟨⟨_, hmt⟩, m_gain hmt (hmc.keep (fun q a b => hst q (by omega) (by omega))) hnc hwk (fun c2 ok2 u u1' u2' u3' => ?_) (fun hno => absurd ok (hno c))⟩
  have es : c2 = c := nI_inj (by have := ok2.1; omega) (by have := ok.1; omega) (by rw [← ok2.2.1, ok.2.1])
  subst es
  exact ⟨rfl, INV.new hC hS hK hP hT hB hR t1 t2 u1' u2' u3'⟩
theorem n_mirror (hI : INV z N ws) : JN (F_X10_mirror z x1) (F_X11_mirror (z + 62) x1) z N ws := by
  obtain ⟨tk, nc, m, Z, ca, cc, ce, so, wk, vl, kp, hC, ⟨n, cnt, rf, wt, hS⟩, ⟨kc, kv, hK⟩, ⟨pc, pf, pw, pn, pl, pg, hP⟩, ⟨tcu, tst, ta, hT⟩, ⟨sz, A, mv, hB⟩, hR⟩ := id hI
  have hcs := hC.1
  have hmo := hC.2.1
  have hmc := hC.2.2.1
  have hnc := hcs.2.2.2.2.1
  have hwk := hcs.2.2.2.2.2.2
  unfold JN
  refine c_mirror hcs (fun c ok t Z2 ca2 cc2 ce2 kp2 t1 t2 => ?_) (fun hno => ⟨⟨_, hmo⟩, m_mirror hmo hmc hnc hwk (fun c ok => absurd ok (hno c)) (fun _ => ⟨rfl, hI.same⟩)⟩)
  have hst : ∀ q, z + 62 ≤ q → q < z + 83 → t.1 q = ws.1 q := fun q a b => t2.2.2.1 q (by rw [hC.2.2.2.1 q (by omega) (by omega) (by omega)]; decide) (by omega) (by omega)
  have hmt : MO t.1 (z + 62) nc m := (hst _ (by omega) (by omega)).trans hmo
  refine ⟨⟨_, hmt⟩, m_mirror hmt (hmc.keep (fun q a b => hst q (by omega) (by omega))) hnc hwk (fun c2 ok2 u u1' u2' u3' => ?_) (fun hno => absurd ok (hno c))⟩
  have es : c2 = c := nI_inj (by have := ok2.1; omega) (by have := ok.1; omega) (by rw [← ok2.2.1, ok.2.1])
  subst es
  exact ⟨rfl, INV.new hC hS hK hP hT hB hR t1 t2 u1' u2' u3'⟩
theorem n_chain (hI : INV z N ws) : JN (F_X10_chain z x1 x2) (F_X11_chain (z + 62) x1 x2) z N ws := by
  obtain ⟨tk, nc, m, Z, ca, cc, ce, so, wk, vl, kp, hC, ⟨n, cnt, rf, wt, hS⟩, ⟨kc, kv, hK⟩, ⟨pc, pf, pw, pn, pl, pg, hP⟩, ⟨tcu, tst, ta, hT⟩, ⟨sz, A, mv, hB⟩, hR⟩ := id hI
  have hcs := hC.1
  have hmo := hC.2.1
  have hmc := hC.2.2.1
  have hnc := hcs.2.2.2.2.1
  have hwk := hcs.2.2.2.2.2.2
  unfold JN
  refine c_chain hcs (fun c l ok t Z2 ca2 cc2 ce2 kp2 t1 t2 => ?_) (fun hno => ⟨⟨_, hmo⟩, m_chain hmo hmc hnc hwk (fun c l ok => absurd ok (hno c l)) (fun _ => ⟨rfl, hI.same⟩)⟩)
  have hst : ∀ q, z + 62 ≤ q → q < z + 83 → t.1 q = ws.1 q := fun q a b => t2.2.2.1 q (by rw [hC.2.2.2.1 q (by omega) (by omega) (by omega)]; decide) (by omega) (by omega)
  have hmt : MO t.1 (z + 62) nc m := (hst _ (by omega) (by omega)).trans hmo
  refine ⟨⟨_, hmt⟩, m_chain hmt (hmc.keep (fun q a b => hst q (by omega) (by omega))) hnc hwk (fun c2 l2 ok2 u u1' u2' u3' => ?_) (fun hno => absurd ok (hno c l))⟩
  have es : l2 = l := nI_inj (by have := ok2.1; omega) (by have := ok.1; omega) (by rw [← ok2.2.1, ok.2.1])
  have ec : c2 = c := nI_inj (by have := ok2.2.2.1; omega) (by have := ok.2.2.1; omega) (by rw [← ok2.2.2.2.1, ok.2.2.2.1])
  subst es
  subst ec
  exact ⟨rfl, INV.new hC hS hK hP hT hB hR t1 t2 u1' u2' u3'⟩
theorem n_line (hI : INV z N ws) : JN (F_X10_line z x1) (F_X11_line (z + 62) x1) z N ws := by
  obtain ⟨tk, nc, m, Z, ca, cc, ce, so, wk, vl, kp, hC, ⟨n, cnt, rf, wt, hS⟩, ⟨kc, kv, hK⟩, ⟨pc, pf, pw, pn, pl, pg, hP⟩, ⟨tcu, tst, ta, hT⟩, ⟨sz, A, mv, hB⟩, hR⟩ := id hI
  have hcs := hC.1
  have hmo := hC.2.1
  have hmc := hC.2.2.1
  have hnc := hcs.2.2.2.2.1
  have hwk := hcs.2.2.2.2.2.2
  unfold JN
  obtain ⟨sA, sC, sI, sM⟩ := id hS
  refine c_line hcs sA sC sI (fun s ok htw t Z2 ca2 cc2 ce2 kp2 t1 t2 => ?_) (fun s ok htw => ⟨⟨_, hmo⟩, m_line hmo hmc hnc sM sI (fun s2 ok2 htw2 => ?_) (fun s2 ok2 htw2 => ⟨rfl, hI.same⟩) (fun hno => absurd ok (hno s))⟩) (fun hno => ⟨⟨_, hmo⟩, m_line hmo hmc hnc sM sI (fun s ok => absurd ok (hno s)) (fun s ok => absurd ok (hno s)) (fun _ => ⟨rfl, hI.same⟩)⟩)
  · have hst : ∀ q, z + 62 ≤ q → q < z + 83 → t.1 q = ws.1 q := fun q a b => t2.2.2.1 q (by rw [hC.2.2.2.1 q (by omega) (by omega) (by omega)]; decide) (by omega) (by omega)
    have hmt : MO t.1 (z + 62) nc m := (hst _ (by omega) (by omega)).trans hmo
    refine ⟨⟨_, hmt⟩, m_line hmt (hmc.keep (fun q a b => hst q (by omega) (by omega))) hnc (sM.keep (fun q a b => hst q (by omega) (by omega))) sI (fun s2 ok2 htw2 u u1' u2' u3' => ?_) (fun s2 ok2 htw2 => ?_) (fun hno => absurd ok (hno s))⟩
    · have es : s2 = s := nI_inj (by have := ok2.1; omega) (by have := ok.1; omega) (by rw [← ok2.2.1, ok.2.1])
      subst es
      exact ⟨rfl, INV.new hC hS hK hP hT hB hR t1 t2 u1' u2' u3'⟩
    · have es : s2 = s := nI_inj (by have := ok2.1; omega) (by have := ok.1; omega) (by rw [← ok2.2.1, ok.2.1])
      subst es
      exact absurd htw htw2
  · have es : s2 = s := nI_inj (by have := ok2.1; omega) (by have := ok.1; omega) (by rw [← ok2.2.1, ok.2.1])
    subst es
    exact absurd htw2 htw
theorem n_pieces (hI : INV z N ws) : JN (F_X10_pieces z) (F_X11_pieces (z + 62)) z N ws := by
  obtain ⟨tk, nc, m, Z, ca, cc, ce, so, wk, vl, kp, hC, ⟨n, cnt, rf, wt, hS⟩, ⟨kc, kv, hK⟩, ⟨pc, pf, pw, pn, pl, pg, hP⟩, ⟨tcu, tst, ta, hT⟩, ⟨sz, A, mv, hB⟩, hR⟩ := id hI
  have hcs := hC.1
  have hmo := hC.2.1
  have hmc := hC.2.2.1
  have hnc := hcs.2.2.2.2.1
  have hwk := hcs.2.2.2.2.2.2
  unfold JN
  obtain ⟨kC, kM, kI⟩ := id hK
  refine c_pieces hcs kC kI hC.2.2.2.2.1 (fun h0 h60 t Z2 ca2 cc2 ce2 kp2 t1 tk2 tz t2 => ?_) (fun hno => ⟨⟨_, hmo⟩, m_pieces hmo hmc hnc kM kI (fun a b => absurd ⟨a, b⟩ hno) (fun _ => ⟨rfl, hI.same⟩)⟩)
  have hst : ∀ q, z + 62 ≤ q → q < z + 83 → t.1 q = ws.1 q := fun q a b => t2.2.2.1 q (by rw [hC.2.2.2.1 q (by omega) (by omega) (by omega)]; decide) (by rw [hC.2.2.2.1 q (by omega) (by omega) (by omega)]; decide) (by omega) (by omega)
  have hmt : MO t.1 (z + 62) nc m := (hst _ (by omega) (by omega)).trans hmo
  refine ⟨⟨_, hmt⟩, m_pieces hmt (hmc.keep (fun q a b => hst q (by omega) (by omega))) hnc (kM.keep (fun q a b => hst q (by omega) (by omega))) kI (fun _ _ u u1' u2' u3' => ?_) (fun hno => absurd ⟨h0, h60⟩ hno)⟩
  exact ⟨rfl, INV.pieces hC hS hK hP hT hB hR t1 tk2 tz t2 u1' u2' u3'⟩
theorem n_value (hI : INV z N ws) : JN (F_X10_value z x1 x2) (F_X11_value (z + 62) x1 x2) z N ws := by
  obtain ⟨tk, nc, m, Z, ca, cc, ce, so, wk, vl, kp, hC, ⟨n, cnt, rf, wt, hS⟩, ⟨kc, kv, hK⟩, ⟨pc, pf, pw, pn, pl, pg, hP⟩, ⟨tcu, tst, ta, hT⟩, ⟨sz, A, mv, hB⟩, hR⟩ := id hI
  have hcs := hC.1
  have hmo := hC.2.1
  have hmc := hC.2.2.1
  have hnc := hcs.2.2.2.2.1
  have hwk := hcs.2.2.2.2.2.2
  unfold JN
  refine c_value hcs (fun c x hc e hx ex => ⟨⟨_, hmo⟩, m_value hmo hmc hnc (fun c2 y hc2 e2 hy ey => ?_) (fun hno => ?_)⟩) (fun hno => ⟨⟨_, hmo⟩, m_value hmo hmc hnc (fun c x hc e hx ex => ?_) (fun _ => ⟨rfl, hI.same⟩)⟩)
  · have ec : c2 = c := nI_inj (by omega) (by omega) (by rw [← e2, e])
    have ey2 : y = x := nI_inj (by omega) (by omega) (by rw [← ey, ex])
    subst ec
    subst ey2
    exact ⟨rfl, hI.same⟩
  · rcases hno with h | h
    · exact absurd e (fun e => no_ix h hc (by omega) e)
    · exact absurd (isCt_ix.mpr ⟨x, hx, ex⟩) h
  · rcases hno with h | h
    · exact absurd e (fun e => no_ix h hc (by omega) e)
    · exact absurd (isCt_ix.mpr ⟨x, hx, ex⟩) h
theorem n_about (hI : INV z N ws) : JN (F_X10_about z x1 x2) (F_X11_about (z + 62) x1 x2) z N ws := by
  obtain ⟨tk, nc, m, Z, ca, cc, ce, so, wk, vl, kp, hC, ⟨n, cnt, rf, wt, hS⟩, ⟨kc, kv, hK⟩, ⟨pc, pf, pw, pn, pl, pg, hP⟩, ⟨tcu, tst, ta, hT⟩, ⟨sz, A, mv, hB⟩, hR⟩ := id hI
  have hcs := hC.1
  have hmo := hC.2.1
  have hmc := hC.2.2.1
  have hnc := hcs.2.2.2.2.1
  have hwk := hcs.2.2.2.2.2.2
  unfold JN
  refine c_about hcs (fun c hc e r t Z2 kp2 t1 t2 ta' => ?_) (fun hno => ⟨⟨_, hmo⟩, m_about hmo hmc hnc (fun c hc e => absurd e (fun e => no_ix hno hc (by omega) e)) (fun _ => ⟨rfl, hI.same⟩)⟩)
  obtain ⟨i1, i2, i3, i4⟩ := INV.ask hC hS hK hP hT hB hR t1 t2.1 (fun q hq => t2.2.1 q (by omega) (by omega)) (hT.1.keep hT.2.2 (fun q hq => ⟨(t2.1 q (by omega)).trans hq, t2.2.1 q (by omega) (by omega)⟩) (t2.2.1 _ (by rw [hC.2.2.2.1 (z + 4) (by omega) (by omega) (by omega)]; decide) (by rw [hC.2.2.2.1 (z + 4) (by omega) (by omega) (by omega)]; decide)) (fun _ _ => ⟨rfl, rfl⟩)) t2.2.2.1 t2.2.2.2
  refine ⟨⟨_, i2⟩, m_about i2 i3 hnc (fun c2 hc2 e2 r2 h2 => ?_) (fun hno => absurd e (fun e => no_ix hno hc (by omega) e))⟩
  have ec : c2 = c := nI_inj (by omega) (by omega) (by rw [← e2, e])
  subst ec
  exact ⟨ta'.eq h2, i1⟩
theorem n_turn (hI : INV z N ws) : JN (F_X10_turn z x1 x2) (F_X11_turn (z + 62) x1 x2) z N ws := by
  obtain ⟨tk, nc, m, Z, ca, cc, ce, so, wk, vl, kp, hC, ⟨n, cnt, rf, wt, hS⟩, ⟨kc, kv, hK⟩, ⟨pc, pf, pw, pn, pl, pg, hP⟩, ⟨tcu, tst, ta, hT⟩, ⟨sz, A, mv, hB⟩, hR⟩ := id hI
  have hcs := hC.1
  have hmo := hC.2.1
  have hmc := hC.2.2.1
  have hnc := hcs.2.2.2.2.1
  have hwk := hcs.2.2.2.2.2.2
  unfold JN
  refine c_turn hcs (fun c hc e r t Z2 kp2 t1 t2 ta' => ?_) (fun hno => ⟨⟨_, hmo⟩, m_turn hmo hmc hnc (fun c hc e => absurd e (fun e => no_ix hno hc (by omega) e)) (fun _ => ⟨rfl, hI.same⟩)⟩)
  obtain ⟨i1, i2, i3, i4⟩ := INV.ask hC hS hK hP hT hB hR t1 t2.1 (fun q hq => t2.2.1 q (by omega) (by omega)) (hT.1.keep hT.2.2 (fun q hq => ⟨(t2.1 q (by omega)).trans hq, t2.2.1 q (by omega) (by omega)⟩) (t2.2.1 _ (by rw [hC.2.2.2.1 (z + 4) (by omega) (by omega) (by omega)]; decide) (by rw [hC.2.2.2.1 (z + 4) (by omega) (by omega) (by omega)]; decide)) (fun _ _ => ⟨rfl, rfl⟩)) t2.2.2.1 t2.2.2.2
  refine ⟨⟨_, i2⟩, m_turn i2 i3 hnc (fun c2 hc2 e2 r2 h2 => ?_) (fun hno => absurd e (fun e => no_ix hno hc (by omega) e))⟩
  have ec : c2 = c := nI_inj (by omega) (by omega) (by rw [← e2, e])
  subst ec
  exact ⟨ta'.eq h2, i1⟩
theorem n_inverse (hI : INV z N ws) : JN (F_X10_inverse z x1 x2) (F_X11_inverse (z + 62) x1 x2) z N ws := by
  obtain ⟨tk, nc, m, Z, ca, cc, ce, so, wk, vl, kp, hC, ⟨n, cnt, rf, wt, hS⟩, ⟨kc, kv, hK⟩, ⟨pc, pf, pw, pn, pl, pg, hP⟩, ⟨tcu, tst, ta, hT⟩, ⟨sz, A, mv, hB⟩, hR⟩ := id hI
  have hcs := hC.1
  have hmo := hC.2.1
  have hmc := hC.2.2.1
  have hnc := hcs.2.2.2.2.1
  have hwk := hcs.2.2.2.2.2.2
  unfold JN
  refine c_inverse hcs (fun c hc e r t Z2 kp2 t1 t2 ta' => ?_) (fun hno => ⟨⟨_, hmo⟩, m_inverse hmo hmc hnc (fun c hc e => absurd e (fun e => no_ix hno hc (by omega) e)) (fun _ => ⟨rfl, hI.same⟩)⟩)
  obtain ⟨i1, i2, i3, i4⟩ := INV.ask hC hS hK hP hT hB hR t1 t2.1 (fun q hq => t2.2.1 q (by omega) (by omega)) (hT.1.keep hT.2.2 (fun q hq => ⟨(t2.1 q (by omega)).trans hq, t2.2.1 q (by omega) (by omega)⟩) (t2.2.1 _ (by rw [hC.2.2.2.1 (z + 4) (by omega) (by omega) (by omega)]; decide) (by rw [hC.2.2.2.1 (z + 4) (by omega) (by omega) (by omega)]; decide)) (fun _ _ => ⟨rfl, rfl⟩)) t2.2.2.1 t2.2.2.2
  refine ⟨⟨_, i2⟩, m_inverse i2 i3 hnc (fun c2 hc2 e2 r2 h2 => ?_) (fun hno => absurd e (fun e => no_ix hno hc (by omega) e))⟩
  have ec : c2 = c := nI_inj (by omega) (by omega) (by rw [← e2, e])
  subst ec
  exact ⟨ta'.eq h2, i1⟩
theorem n_residual (hI : INV z N ws) : JN (F_X10_residual z x1 x2 x3) (F_X11_residual (z + 62) x1 x2 x3) z N ws := by
  obtain ⟨tk, nc, m, Z, ca, cc, ce, so, wk, vl, kp, hC, ⟨n, cnt, rf, wt, hS⟩, ⟨kc, kv, hK⟩, ⟨pc, pf, pw, pn, pl, pg, hP⟩, ⟨tcu, tst, ta, hT⟩, ⟨sz, A, mv, hB⟩, hR⟩ := id hI
  have hcs := hC.1
  have hmo := hC.2.1
  have hmc := hC.2.2.1
  have hnc := hcs.2.2.2.2.1
  have hwk := hcs.2.2.2.2.2.2
  unfold JN
  obtain ⟨sA, sC, sI, sM⟩ := id hS
  refine c_residual hcs sA sC sI (fun s i c ok => ⟨⟨_, hmo⟩, m_residual hmo hmc hnc sM sI (fun s2 i2 c2 ok2 => ?_) (fun hno => absurd ok (hno s i c))⟩) (fun hno => ⟨⟨_, hmo⟩, m_residual hmo hmc hnc sM sI (fun s i c ok => absurd ok (hno s i c)) (fun _ => ⟨rfl, hI.same⟩)⟩)
  have es : s2 = s := nI_inj (by have := ok2.1; omega) (by have := ok.1; omega) (by rw [← ok2.2.1, ok.2.1])
  subst es
  have hn24 := (sI s2 ok.1).1
  have ei : i2 = i := nI_inj (by have := ok2.2.2.1; omega) (by have := ok.2.2.1; omega) (by rw [← ok2.2.2.2.1, ok.2.2.2.1])
  have ec : c2 = c := nI_inj (by have := ok2.2.2.2.2.1; omega) (by have := ok.2.2.2.2.1; omega) (by rw [← ok2.2.2.2.2.2, ok.2.2.2.2.2])
  subst ei
  subst ec
  exact ⟨rfl, hI.same⟩
theorem n_worst (hI : INV z N ws) : JN (F_X10_worst z x1 x2) (F_X11_worst (z + 62) x1 x2) z N ws := by
  obtain ⟨tk, nc, m, Z, ca, cc, ce, so, wk, vl, kp, hC, ⟨n, cnt, rf, wt, hS⟩, ⟨kc, kv, hK⟩, ⟨pc, pf, pw, pn, pl, pg, hP⟩, ⟨tcu, tst, ta, hT⟩, ⟨sz, A, mv, hB⟩, hR⟩ := id hI
  have hcs := hC.1
  have hmo := hC.2.1
  have hmc := hC.2.2.1
  have hnc := hcs.2.2.2.2.1
  have hwk := hcs.2.2.2.2.2.2
  unfold JN
  obtain ⟨sA, sC, sI, sM⟩ := id hS
  refine c_worst hcs sA sC sI (fun s c ok => ⟨⟨_, hmo⟩, m_worst hmo hmc hnc sM sI (fun s2 c2 ok2 => ?_) (fun hno => absurd ok (hno s c))⟩) (fun hno => ⟨⟨_, hmo⟩, m_worst hmo hmc hnc sM sI (fun s c ok => absurd ok (hno s c)) (fun _ => ⟨rfl, hI.same⟩)⟩)
  have es : s2 = s := nI_inj (by have := ok2.1; omega) (by have := ok.1; omega) (by rw [← ok2.2.1, ok.2.1])
  have ec : c2 = c := nI_inj (by have := ok2.2.2.1; omega) (by have := ok.2.2.1; omega) (by rw [← ok2.2.2.2, ok.2.2.2])
  subst es
  subst ec
  exact ⟨rfl, hI.same⟩
theorem n_squares (hI : INV z N ws) : JN (F_X10_squares z x1 x2) (F_X11_squares (z + 62) x1 x2) z N ws := by
  obtain ⟨tk, nc, m, Z, ca, cc, ce, so, wk, vl, kp, hC, ⟨n, cnt, rf, wt, hS⟩, ⟨kc, kv, hK⟩, ⟨pc, pf, pw, pn, pl, pg, hP⟩, ⟨tcu, tst, ta, hT⟩, ⟨sz, A, mv, hB⟩, hR⟩ := id hI
  have hcs := hC.1
  have hmo := hC.2.1
  have hmc := hC.2.2.1
  have hnc := hcs.2.2.2.2.1
  have hwk := hcs.2.2.2.2.2.2
  unfold JN
  obtain ⟨sA, sC, sI, sM⟩ := id hS
  refine c_squares hcs sA sC sI (fun s c ok => ⟨⟨_, hmo⟩, m_squares hmo hmc hnc sM sI (fun s2 c2 ok2 => ?_) (fun hno => absurd ok (hno s c))⟩) (fun hno => ⟨⟨_, hmo⟩, m_squares hmo hmc hnc sM sI (fun s c ok => absurd ok (hno s c)) (fun _ => ⟨rfl, hI.same⟩)⟩)
  have es : s2 = s := nI_inj (by have := ok2.1; omega) (by have := ok.1; omega) (by rw [← ok2.2.1, ok.2.1])
  have ec : c2 = c := nI_inj (by have := ok2.2.2.1; omega) (by have := ok.2.2.1; omega) (by rw [← ok2.2.2.2, ok.2.2.2])
  subst es
  subst ec
  exact ⟨rfl, hI.same⟩
theorem n_drift (hI : INV z N ws) : JN (F_X10_drift z x1 x2) (F_X11_drift (z + 62) x1 x2) z N ws := by
  obtain ⟨tk, nc, m, Z, ca, cc, ce, so, wk, vl, kp, hC, ⟨n, cnt, rf, wt, hS⟩, ⟨kc, kv, hK⟩, ⟨pc, pf, pw, pn, pl, pg, hP⟩, ⟨tcu, tst, ta, hT⟩, ⟨sz, A, mv, hB⟩, hR⟩ := id hI
  have hcs := hC.1
  have hmo := hC.2.1
  have hmc := hC.2.2.1
  have hnc := hcs.2.2.2.2.1
  have hwk := hcs.2.2.2.2.2.2
  unfold JN
  obtain ⟨sA, sC, sI, sM⟩ := id hS
  refine c_drift hcs sA sC sI (fun s c ok hn => ⟨⟨_, hmo⟩, m_drift hmo hmc hnc sM sI (fun s2 c2 ok2 hn2 => ?_) (fun hno => absurd hn (hno s c ok))⟩) (fun hno => ⟨⟨_, hmo⟩, m_drift hmo hmc hnc sM sI (fun s c ok hn => absurd hn (hno s c ok)) (fun _ => ⟨rfl, hI.same⟩)⟩)
  have es : s2 = s := nI_inj (by have := ok2.1; omega) (by have := ok.1; omega) (by rw [← ok2.2.1, ok.2.1])
  have ec : c2 = c := nI_inj (by have := ok2.2.2.1; omega) (by have := ok.2.2.1; omega) (by rw [← ok2.2.2.2, ok.2.2.2])
  subst es
  subst ec
  exact ⟨rfl, hI.same⟩
end JOIN
