/-! ===== calls on curves ===== -/
def isVl (x : Int32) : Prop := ¬ x < -1000000 ∧ ¬ 1000000 < x
def vCl (a b v : Int32) : Int32 := if v < a then a else if b < v then b else v
def vDe (a b r v : Int32) : Int32 := if v < a then v else if b < v then v else r
def vGa (u d m v : Int32) : Int32 := nvl (RN (v.toInt64 * u.toInt64) d.toInt64 + m.toInt64)
theorem vCl_eq {a b v : Int32} (h : ¬ b < a) : vCl a b v = if a < (if v < b then v else b) then (if v < b then v else b) else a := by
  unfold vCl
  rw [Int32.lt_iff_toInt_lt] at h
  by_cases h1 : v < b
  · rw [if_pos h1]
    rw [Int32.lt_iff_toInt_lt] at h1
    by_cases h2 : a < v
    · rw [if_pos h2]
      rw [Int32.lt_iff_toInt_lt] at h2
      rw [if_neg (by rw [Int32.lt_iff_toInt_lt]; omega), if_neg (by rw [Int32.lt_iff_toInt_lt]; omega)]
    · rw [if_neg h2]
      by_cases h3 : v < a
      · rw [if_pos h3]
      · rw [if_neg h3, if_neg (by rw [Int32.lt_iff_toInt_lt]; omega)]
        rw [Int32.lt_iff_toInt_lt] at h2 h3
        exact Int32.toInt_inj.mp (by omega)
  · rw [if_neg h1]
    rw [Int32.lt_iff_toInt_lt] at h1
    by_cases h2 : a < b
    · rw [if_pos h2, if_neg (by rw [Int32.lt_iff_toInt_lt]; rw [Int32.lt_iff_toInt_lt] at h2; omega)]
      by_cases h3 : b < v
      · rw [if_pos h3]
      · rw [if_neg h3]
        rw [Int32.lt_iff_toInt_lt] at h3
        exact Int32.toInt_inj.mp (by omega)
    · rw [if_neg h2]
      rw [Int32.lt_iff_toInt_lt] at h2
      rw [if_neg (by rw [Int32.lt_iff_toInt_lt]; omega)]
      by_cases h3 : b < v
      · rw [if_pos h3]
        exact Int32.toInt_inj.mp (by omega)
      · rw [if_neg h3]
        rw [Int32.lt_iff_toInt_lt] at h3
        exact Int32.toInt_inj.mp (by omega)
theorem isCt_ix {x : Int32} : isCt x ↔ ∃ j, j < 4096 ∧ x = nI j := by
  constructor
  · intro ⟨h1, h2⟩
    exact nI_ofInt (n := 4096) h1 (Int32.not_le.mp (fun z => h2 (i32_lt_succ.mp z))) (by decide)
  · intro ⟨j, hj, e⟩
    rw [e]
    exact ⟨nI_pos (by omega), nI_nlt (a := 4095) (b := j) (by omega) (by decide)⟩
section CALLS
variable {z tk nc : Nat} {Z ca cc : Nat → Nat} {ce : Nat → List Value} {so : Nat → Int32} {wk : Nat → Nat} {vl : Nat → Nat → Int32} {kp : Nat → Nat}
theorem nI_inj {a b : Nat} (ha : a < 2 ^ 31) (hb : b < 2 ^ 31) (h : nI a = nI b) : a = b := (nI_eq ha hb).mp h
theorem no_ix {x : Int32} {n j : Nat} (h : x < 0 ∨ nI n ≤ x) (hj : j < n) (hn : n < 2 ^ 31) (e : x = nI j) : False := by
  rw [e] at h
  rcases h with h | h
  · exact nI_pos (by omega) h
  · exact nI_ge hj hn h
def okCl (nc : Nat) (wk : Nat → Nat) (x1 x2 x3 : Int32) (c : Nat) : Prop := c < nc ∧ x1 = nI c ∧ ¬ x3 < x2 ∧ isVl x2 ∧ isVl x3 ∧ 1 + wk c ≤ 500 ∧ nc < 60
theorem c_clamp {ws : WS} {x1 x2 x3 : Int32} {P : Int32 → WS → Prop} (hcs : CS z tk nc Z ca cc ce so wk vl kp ws)
    (h1 : ∀ c, okCl nc wk x1 x2 x3 c → ∀ (t : WS) (Z2 ca2 cc2 : Nat → Nat) (ce2 : Nat → List Value) (kp2 : Nat → Nat), CS z tk (nc + 1) Z2 ca2 cc2 ce2 (u1 so nc 2) (u1 wk nc (1 + wk c)) (u1 vl nc (fun x => vCl x2 x3 (vl c x))) kp2 t → NW z nc Z ca kp ws Z2 ca2 kp2 t → P (nI nc) t)
    (h0 : (∀ c, ¬ okCl nc wk x1 x2 x3 c) → P (-2) ws) : Hr (F_X10_clamp z x1 x2 x3) ws P := by
  have hcs0 := hcs
  obtain ⟨hf, ha, hcv, hza, hnc, hzz, hwk⟩ := hcs
  have hf0 := hf
  unfold FO at hf0
  unfold F_X10_clamp
  refine hb_dr hf0 (by decide) ?_
  refine q_curve hf ha hnc (fun c hc e => ?_) (fun hno => hr_t rfl (hr_rt (h0 (fun c hk => no_ix hno hk.1 (by omega) hk.2.1))))
  subst e
  have bad : (¬ okCl nc wk (nI c) x2 x3 c) → P (-2) ws := fun hb => h0 (fun c2 hk => by
    have e := nI_inj (by omega) (by have := hk.1; omega) hk.2.1
    subst e
    exact hb hk)
  refine hr_f (by simp) ?_
  refine hr_br (fun b => hr_rt (bad (fun z => z.2.2.1 b))) (fun b1 => ?_)
  refine q_isValue (fun b2 => ?_) (fun b2 => hr_t rfl (hr_rt (bad (fun z => b2 z.2.2.2.1))))
  refine hr_f (by decide) ?_
  refine q_isValue (fun b3 => ?_) (fun b3 => hr_t rfl (hr_rt (bad (fun z => b3 z.2.2.2.2.1))))
  refine hr_f (by decide) ?_
  obtain ⟨rc, fc, c1, c2, c3, -⟩ := hcv c hc
  refine hb_gI c1 c3.cls rfl ?_
  refine hb_dr hf0 (by decide) ?_
  have hwc := hwk c hc
  rw [show (1 : Int32) + nI (wk c) = nI (1 + wk c) from nI_add 1 _]
  refine q_room hf hnc (by omega) (fun b4 => ?_) (fun b4 => hr_t rfl (hr_rt (bad (fun z => b4 z.2.2.2.2.2))))
  refine hr_f (by decide) ?_
  refine c_remade hcs0 b4.2 hc (Or.inl ⟨rfl, rfl⟩) b4.1 (fun ca2 hca2 => Or.inl ⟨rfl, fun x hx => ?_⟩) (fun t Z2 ca2 cc2 ce2 kp2 t1 t2 => h1 c ⟨hc, rfl, b1, b2, b3, b4⟩ t Z2 ca2 cc2 ce2 kp2 t1 t2)
  rw [u1_s, u1_n (by omega)]
  exact vCl_eq b1
def okDe (nc : Nat) (wk : Nat → Nat) (x1 x2 x3 x4 : Int32) (c : Nat) : Prop := c < nc ∧ x1 = nI c ∧ ¬ x3 < x2 ∧ isVl x2 ∧ isVl x3 ∧ isVl x4 ∧ 1 + wk c ≤ 500 ∧ nc < 60
theorem c_dead {ws : WS} {x1 x2 x3 x4 : Int32} {P : Int32 → WS → Prop} (hcs : CS z tk nc Z ca cc ce so wk vl kp ws)
    (h1 : ∀ c, okDe nc wk x1 x2 x3 x4 c → ∀ (t : WS) (Z2 ca2 cc2 : Nat → Nat) (ce2 : Nat → List Value) (kp2 : Nat → Nat), CS z tk (nc + 1) Z2 ca2 cc2 ce2 (u1 so nc 3) (u1 wk nc (1 + wk c)) (u1 vl nc (fun x => vDe x2 x3 x4 (vl c x))) kp2 t → NW z nc Z ca kp ws Z2 ca2 kp2 t → P (nI nc) t)
    (h0 : (∀ c, ¬ okDe nc wk x1 x2 x3 x4 c) → P (-2) ws) : Hr (F_X10_dead z x1 x2 x3 x4) ws P := by
  have hcs0 := hcs
  obtain ⟨hf, ha, hcv, hza, hnc, hzz, hwk⟩ := hcs
  have hf0 := hf
  unfold FO at hf0
  unfold F_X10_dead
  refine hb_dr hf0 (by decide) ?_
  refine q_curve hf ha hnc (fun c hc e => ?_) (fun hno => hr_t rfl (hr_rt (h0 (fun c hk => no_ix hno hk.1 (by omega) hk.2.1))))
  subst e
  have bad : (¬ okDe nc wk (nI c) x2 x3 x4 c) → P (-2) ws := fun hb => h0 (fun c2 hk => by
    have e := nI_inj (by omega) (by have := hk.1; omega) hk.2.1
    subst e
    exact hb hk)
  refine hr_f (by simp) ?_
  refine hr_br (fun b => hr_rt (bad (fun z => z.2.2.1 b))) (fun b1 => ?_)
  refine q_isValue (fun b2 => ?_) (fun b2 => hr_t rfl (hr_rt (bad (fun z => b2 z.2.2.2.1))))
  refine hr_f (by decide) ?_
  refine q_isValue (fun b3 => ?_) (fun b3 => hr_t rfl (hr_rt (bad (fun z => b3 z.2.2.2.2.1))))
  refine hr_f (by decide) ?_
  refine q_isValue (fun b5 => ?_) (fun b5 => hr_t rfl (hr_rt (bad (fun z => b5 z.2.2.2.2.2.1))))
  refine hr_f (by decide) ?_
  obtain ⟨rc, fc, c1, c2, c3, -⟩ := hcv c hc
  refine hb_gI c1 c3.cls rfl ?_
  refine hb_dr hf0 (by decide) ?_
  have hwc := hwk c hc
  rw [show (1 : Int32) + nI (wk c) = nI (1 + wk c) from nI_add 1 _]
  refine q_room hf hnc (by omega) (fun b4 => ?_) (fun b4 => hr_t rfl (hr_rt (bad (fun z => b4 z.2.2.2.2.2.2))))
  refine hr_f (by decide) ?_
  refine c_remade hcs0 b4.2 hc (Or.inl ⟨rfl, rfl⟩) b4.1 (fun ca2 hca2 => Or.inr (Or.inl ⟨rfl, fun x hx => ?_⟩)) (fun t Z2 ca2 cc2 ce2 kp2 t1 t2 => h1 c ⟨hc, rfl, b1, b2, b3, b5, b4⟩ t Z2 ca2 cc2 ce2 kp2 t1 t2)
  rw [u1_s, u1_n (by omega)]
  rfl
def okGa (nc : Nat) (wk : Nat → Nat) (x1 x2 x3 x4 : Int32) (c : Nat) : Prop := c < nc ∧ x1 = nI c ∧ (¬ x2 < -1000 ∧ ¬ 1000 < x2) ∧ ¬ x3 < 1 ∧ x3 ≤ 1000 ∧ isVl x4 ∧ 1 + wk c ≤ 500 ∧ nc < 60
theorem pos_of_1 {x : Int32} (h : ¬ x < 1) : 0 < x.toInt64 := by
  rw [Int64.lt_iff_toInt_lt, i64_z, Jvm.Kit.i64_of_i32]
  rw [Int32.lt_iff_toInt_lt, show (1 : Int32).toInt = 1 from rfl] at h
  omega
theorem c_gain {ws : WS} {x1 x2 x3 x4 : Int32} {P : Int32 → WS → Prop} (hcs : CS z tk nc Z ca cc ce so wk vl kp ws)
    (h1 : ∀ c, okGa nc wk x1 x2 x3 x4 c → ∀ (t : WS) (Z2 ca2 cc2 : Nat → Nat) (ce2 : Nat → List Value) (kp2 : Nat → Nat), CS z tk (nc + 1) Z2 ca2 cc2 ce2 (u1 so nc 5) (u1 wk nc (1 + wk c)) (u1 vl nc (fun x => vGa x2 x3 x4 (vl c x))) kp2 t → NW z nc Z ca kp ws Z2 ca2 kp2 t → P (nI nc) t)
    (h0 : (∀ c, ¬ okGa nc wk x1 x2 x3 x4 c) → P (-2) ws) : Hr (F_X10_gain z x1 x2 x3 x4) ws P := by
  have hcs0 := hcs
  obtain ⟨hf, ha, hcv, hza, hnc, hzz, hwk⟩ := hcs
  have hf0 := hf
  unfold FO at hf0
  unfold F_X10_gain
  refine hb_dr hf0 (by decide) ?_
  refine q_curve hf ha hnc (fun c hc e => ?_) (fun hno => hr_t rfl (hr_rt (h0 (fun c hk => no_ix hno hk.1 (by omega) hk.2.1))))
  subst e
  have bad : (¬ okGa nc wk (nI c) x2 x3 x4 c) → P (-2) ws := fun hb => h0 (fun c2 hk => by
    have e := nI_inj (by omega) (by have := hk.1; omega) hk.2.1
    subst e
    exact hb hk)
  refine hr_f (by simp) ?_
  refine q_isWithin (fun b2 => ?_) (fun b2 => hr_t rfl (hr_rt (bad (fun z => b2 z.2.2.1))))
  refine hr_f (by decide) ?_
  refine hr_br (fun b => hr_rt (bad (fun z => z.2.2.2.1 b))) (fun b1 => ?_)
  refine hr_br (fun b3 => ?_) (fun b => hr_rt (bad (fun z => b z.2.2.2.2.1)))
  refine q_isValue (fun b5 => ?_) (fun b5 => hr_t rfl (hr_rt (bad (fun z => b5 z.2.2.2.2.2.1))))
  refine hr_f (by decide) ?_
  obtain ⟨rc, fc, c1, c2, c3, -⟩ := hcv c hc
  refine hb_gI c1 c3.cls rfl ?_
  refine hb_dr hf0 (by decide) ?_
  have hwc := hwk c hc
  rw [show (1 : Int32) + nI (wk c) = nI (1 + wk c) from nI_add 1 _]
  refine q_room hf hnc (by omega) (fun b4 => ?_) (fun b4 => hr_t rfl (hr_rt (bad (fun z => b4 z.2.2.2.2.2.2))))
  refine hr_f (by decide) ?_
  refine c_remade hcs0 b4.2 hc (Or.inl ⟨rfl, rfl⟩) b4.1 (fun ca2 hca2 => Or.inr (Or.inr (Or.inr (Or.inl ⟨rfl, pos_of_1 b1, fun x hx => ?_⟩)))) (fun t Z2 ca2 cc2 ce2 kp2 t1 t2 => h1 c ⟨hc, rfl, b2, b1, b3, b5, b4⟩ t Z2 ca2 cc2 ce2 kp2 t1 t2)
  rw [u1_s, u1_n (by omega)]
  rfl
def okMi (nc : Nat) (wk : Nat → Nat) (x1 : Int32) (c : Nat) : Prop := c < nc ∧ x1 = nI c ∧ 1 + wk c ≤ 500 ∧ nc < 60
theorem c_mirror {ws : WS} {x1 : Int32} {P : Int32 → WS → Prop} (hcs : CS z tk nc Z ca cc ce so wk vl kp ws)
    (h1 : ∀ c, okMi nc wk x1 c → ∀ (t : WS) (Z2 ca2 cc2 : Nat → Nat) (ce2 : Nat → List Value) (kp2 : Nat → Nat), CS z tk (nc + 1) Z2 ca2 cc2 ce2 (u1 so nc 6) (u1 wk nc (1 + wk c)) (u1 vl nc (fun x => vl c (4095 - x))) kp2 t → NW z nc Z ca kp ws Z2 ca2 kp2 t → P (nI nc) t)
    (h0 : (∀ c, ¬ okMi nc wk x1 c) → P (-2) ws) : Hr (F_X10_mirror z x1) ws P := by
  have hcs0 := hcs
  obtain ⟨hf, ha, hcv, hza, hnc, hzz, hwk⟩ := hcs
  have hf0 := hf
  unfold FO at hf0
  unfold F_X10_mirror
  refine hb_dr hf0 (by decide) ?_
  refine q_curve hf ha hnc (fun c hc e => ?_) (fun hno => hr_t rfl (hr_rt (h0 (fun c hk => no_ix hno hk.1 (by omega) hk.2.1))))
  subst e
  have bad : (¬ okMi nc wk (nI c) c) → P (-2) ws := fun hb => h0 (fun c2 hk => by
    have e := nI_inj (by omega) (by have := hk.1; omega) hk.2.1
    subst e
    exact hb hk)
  refine hr_f (by simp) ?_
  obtain ⟨rc, fc, c1, c2, c3, -⟩ := hcv c hc
  refine hb_gI c1 c3.cls rfl ?_
  refine hb_dr hf0 (by decide) ?_
  have hwc := hwk c hc
  rw [show (1 : Int32) + nI (wk c) = nI (1 + wk c) from nI_add 1 _]
  refine q_room hf hnc (by omega) (fun b4 => ?_) (fun b4 => hr_t rfl (hr_rt (bad (fun z => b4 z.2.2))))
  refine hr_f (by decide) ?_
  refine c_remade hcs0 b4.2 hc (Or.inl ⟨rfl, rfl⟩) b4.1 (fun ca2 hca2 => Or.inr (Or.inr (Or.inr (Or.inr ⟨rfl, fun x hx => ?_⟩)))) (fun t Z2 ca2 cc2 ce2 kp2 t1 t2 => h1 c ⟨hc, rfl, b4⟩ t Z2 ca2 cc2 ce2 kp2 t1 t2)
  rw [u1_s, u1_n (by omega)]
def okCh (nc : Nat) (wk : Nat → Nat) (x1 x2 : Int32) (c l : Nat) : Prop := l < nc ∧ x1 = nI l ∧ c < nc ∧ x2 = nI c ∧ 1 + wk c + wk l ≤ 500 ∧ nc < 60
theorem c_chain {ws : WS} {x1 x2 : Int32} {P : Int32 → WS → Prop} (hcs : CS z tk nc Z ca cc ce so wk vl kp ws)
    (h1 : ∀ c l, okCh nc wk x1 x2 c l → ∀ (t : WS) (Z2 ca2 cc2 : Nat → Nat) (ce2 : Nat → List Value) (kp2 : Nat → Nat), CS z tk (nc + 1) Z2 ca2 cc2 ce2 (u1 so nc 4) (u1 wk nc (1 + wk c + wk l)) (u1 vl nc (fun x => vl l (ncl (vl c x)).toNatClampNeg)) kp2 t → NW z nc Z ca kp ws Z2 ca2 kp2 t → P (nI nc) t)
    (h0 : (∀ c l, ¬ okCh nc wk x1 x2 c l) → P (-2) ws) : Hr (F_X10_chain z x1 x2) ws P := by
  have hcs0 := hcs
  obtain ⟨hf, ha, hcv, hza, hnc, hzz, hwk⟩ := hcs
  have hf0 := hf
  unfold FO at hf0
  unfold F_X10_chain
  refine hb_dr hf0 (by decide) ?_
  refine q_curve hf ha hnc (fun l hl e => ?_) (fun hno => ?_)
  · subst e
    refine hb_dr hf0 (by decide) ?_
    refine q_curve hf ha hnc (fun c hc e => ?_) (fun hno => hr_f (by simp) (hr_t rfl (hr_rt (h0 (fun c l hk => no_ix hno hk.2.2.1 (by omega) hk.2.2.2.1)))))
    subst e
    have bad : (¬ okCh nc wk (nI l) (nI c) c l) → P (-2) ws := fun hb => h0 (fun c2 l2 hk => by
      have e := nI_inj (by omega) (by have := hk.1; omega) hk.2.1
      have e2 := nI_inj (by omega) (by have := hk.2.2.1; omega) hk.2.2.2.1
      subst e
      subst e2
      exact hb hk)
    refine hr_f (by simp) (hr_f (by simp) ?_)
    obtain ⟨rl, fl, l1, l2, l3, -⟩ := hcv l hl
    obtain ⟨rc, fc, c1, c2, c3, -⟩ := hcv c hc
    refine hb_gI l1 l3.cls rfl ?_
    refine hb_gI c1 c3.cls rfl ?_
    refine hb_dr hf0 (by decide) ?_
    have hwc := hwk c hc
    have hwl := hwk l hl
    rw [show (1 : Int32) + nI (wk l) = nI (1 + wk l) from nI_add 1 _, nI_add, show 1 + wk l + wk c = 1 + wk c + wk l by omega]
    refine q_room hf hnc (by omega) (fun b4 => ?_) (fun b4 => hr_t rfl (hr_rt (bad (fun z => b4 z.2.2.2.2))))
    refine hr_f (by decide) ?_
    refine c_remade hcs0 b4.2 hc (Or.inr ⟨l, hl, rfl, rfl⟩) b4.1 (fun ca2 hca2 => Or.inr (Or.inr (Or.inl ⟨rfl, l, hl, by rw [hca2 l hl], fun x hx => ?_⟩))) (fun t Z2 ca2 cc2 ce2 kp2 t1 t2 => h1 c l ⟨hl, rfl, hc, rfl, b4⟩ t Z2 ca2 cc2 ce2 kp2 t1 t2)
    rw [u1_s, u1_n (by omega), u1_n (by omega)]
  · refine hb_dr hf0 (by decide) ?_
    refine q_curve hf ha hnc (fun c hc e => hr_t rfl (hr_rt (h0 (fun c l hk => no_ix hno hk.1 (by omega) hk.2.1)))) (fun _ => hr_t rfl (hr_rt (h0 (fun c l hk => no_ix hno hk.1 (by omega) hk.2.1))))
theorem c_value {ws : WS} {x1 x2 : Int32} {P : Int32 → WS → Prop} (hcs : CS z tk nc Z ca cc ce so wk vl kp ws) (h1 : ∀ c x, c < nc → x1 = nI c → x < 4096 → x2 = nI x → P (vl c x) ws) (h0 : ((x1 < 0 ∨ nI nc ≤ x1) ∨ ¬ isCt x2) → P (-2000000) ws) : Hr (F_X10_value z x1 x2) ws P := by
  obtain ⟨hf, ha, hcv, hza, hnc, hzz, hwk⟩ := hcs
  have hf0 := hf
  unfold FO at hf0
  unfold F_X10_value
  refine hb_dr hf0 (by decide) ?_
  refine q_curve hf ha hnc (fun c hc e => ?_) (fun hno => hr_t rfl (hr_rt (h0 (Or.inl hno))))
  refine hr_f (by simp) ?_
  refine q_isCount (fun b => ?_) (fun b => hr_t rfl (hr_rt (h0 (Or.inr b))))
  refine hr_f (by decide) ?_
  obtain ⟨x, hx, e2⟩ := isCt_ix.mp b
  obtain ⟨cj, fj, cj1, cj2⟩ := (hcv c hc).isO
  refine hb_dr cj2 cj1 ?_
  rw [e2]
  refine hb_c (c_at hcv c hc 64 (by omega) x hx) (fun r t h => ?_)
  obtain ⟨rfl, rfl⟩ := h
  exact hr_rt (h1 c x hc e hx e2)
theorem CS.gw {ws t : WS} {m : Nat} {Z2 kp2 : Nat → Nat} (hcs : CS z tk nc Z ca cc ce so wk vl kp ws) (h1 : ∀ l, l < nc → CU t.1 Z2 ca cc ce so wk vl kp2 l) (h2 : ZA Z2 t.2.1) (h3 : GW nc m Z kp ws Z2 kp2 t) : CS z tk nc Z2 ca cc ce so wk vl kp2 t := by
  obtain ⟨hf, ⟨g, ha, hg⟩, hcv, hza, hnc, hzz, hwk⟩ := hcs
  exact ⟨(h3.2.1 z (by omega) (by omega)).trans hf, ⟨g, (h3.2.1 _ (by omega) (by omega)).trans ha, hg⟩, h1, h2, hnc, ⟨(h3.1 z (by omega)).trans hzz.1, (h3.1 _ (by omega)).trans hzz.2⟩, hwk⟩
/-- the answer of about -/
def AB (v : Nat → Int32) (se : Int32) (w : Nat) (x2 r : Int32) : Prop := (x2 = 0 ∧ r = se) ∨ (x2 = 1 ∧ r = nI w) ∨ (x2 = 2 ∧ FT v r) ∨ (x2 = 3 ∧ r = nI (ts v 4096).2) ∨ (x2 = 4 ∧ isLo v 4096 r) ∨ (x2 = 5 ∧ isHi v 4096 r) ∨ ((¬ x2 = 0 ∧ ¬ x2 = 1 ∧ ¬ x2 = 2 ∧ ¬ x2 = 3 ∧ ¬ x2 = 4 ∧ ¬ x2 = 5) ∧ r = -2000000)
theorem c_about {ws : WS} {x1 x2 : Int32} {P : Int32 → WS → Prop} (hcs : CS z tk nc Z ca cc ce so wk vl kp ws) (h1 : ∀ c, c < nc → x1 = nI c → ∀ (r : Int32) (t : WS) (Z2 kp2 : Nat → Nat), CS z tk nc Z2 ca cc ce so wk vl kp2 t → GW nc 200 Z kp ws Z2 kp2 t → AB (vl c) (so c) (wk c) x2 r → P r t) (h0 : (x1 < 0 ∨ nI nc ≤ x1) → P (-2000000) ws) : Hr (F_X10_about z x1 x2) ws P := by
  have hcs0 := hcs
  obtain ⟨hf, ha, hcv, hza, hnc, hzz, hwk⟩ := hcs
  have hf0 := hf
  unfold FO at hf0
  unfold F_X10_about
  refine hb_dr hf0 (by decide) ?_
  refine q_curve hf ha hnc (fun c hc e => ?_) (fun hno => hr_t rfl (hr_rt (h0 hno)))
  refine hr_f (by simp) ?_
  refine hb_rt ?_
  obtain ⟨rc, fc, c1, c2, c3, -⟩ := hcv c hc
  have hcl := c3.cls
  have hform : ∀ (k : Nat) (Q : Int32 → Prop), (∀ (fa : Nat) (t : WS) (ra tc : Nat) (tr lo hi : Int32) (tn : Option Nat), FQ (vl c) tr tc lo hi → ∃ x, [Value.ref ra, .int tr, .int (nI tc), .int lo, .int hi, va_rf tn][k]? = some (.int x) ∧ Q x) → (∀ r, Q r → AB (vl c) (so c) (wk c) x2 r) → Hr (bd (dr [3, 4, 6] (some (ca c))) fun q8 => bd (F_X1_formed q8.1) fun c7 => bd (gI [1] k c7) fun v9 => rt v9) ws P := by
    intro k Q hk hQ
    refine hb_dr c1 hcl ?_
    refine hb_c (c_formed hnc hc hcv hza) (fun r t h => ?_)
    obtain ⟨Z2, kp2, fa, rfl, ⟨ra, tc, tr, lo, hi, tn, f, d1, d2, d3, d4, d5, d6, -⟩, g⟩ := h
    obtain ⟨x, k1, k2⟩ := hk fa t ra tc tr lo hi tn d6
    refine hb_gI d5 (by decide) k1 ?_
    exact hr_rt (h1 c hc e x t Z2 kp2 (hcs0.gw d1 d2 g) (GW.tr g GW.rf (by omega) (Nat.le_refl _)) (hQ x k2))
  refine hr_br (fun b0 => ?_) (fun b0 => ?_)
  · refine hb_gI c1 hcl rfl ?_
    exact hr_rt (h1 c hc e _ ws Z kp hcs0 GW.rf (Or.inl ⟨b0, rfl⟩))
  refine hr_br (fun b1 => ?_) (fun b1 => ?_)
  · refine hb_gI c1 hcl rfl ?_
    exact hr_rt (h1 c hc e _ ws Z kp hcs0 GW.rf (Or.inr (Or.inl ⟨b1, rfl⟩)))
  refine hr_br (fun b2 => ?_) (fun b2 => ?_)
  · exact hform 1 (fun r => FT (vl c) r) (fun fa t ra tc tr lo hi tn h => ⟨tr, rfl, h.1⟩) (fun r h => Or.inr (Or.inr (Or.inl ⟨b2, h⟩)))
  refine hr_br (fun b3 => ?_) (fun b3 => ?_)
  · exact hform 2 (fun r => r = nI (ts (vl c) 4096).2) (fun fa t ra tc tr lo hi tn h => ⟨nI tc, rfl, by rw [h.2.1]⟩) (fun r h => Or.inr (Or.inr (Or.inr (Or.inl ⟨b3, h⟩))))
  refine hr_br (fun b4 => ?_) (fun b4 => ?_)
  · exact hform 3 (fun r => isLo (vl c) 4096 r) (fun fa t ra tc tr lo hi tn h => ⟨lo, rfl, h.2.2.1⟩) (fun r h => Or.inr (Or.inr (Or.inr (Or.inr (Or.inl ⟨b4, h⟩)))))
  refine hr_br (fun b5 => ?_) (fun b5 => ?_)
  · exact hform 4 (fun r => isHi (vl c) 4096 r) (fun fa t ra tc tr lo hi tn h => ⟨hi, rfl, h.2.2.2⟩) (fun r h => Or.inr (Or.inr (Or.inr (Or.inr (Or.inr (Or.inl ⟨b5, h⟩))))))
  · exact hr_rt (h1 c hc e _ ws Z kp hcs0 GW.rf (Or.inr (Or.inr (Or.inr (Or.inr (Or.inr (Or.inr ⟨⟨b0, b1, b2, b3, b4, b5⟩, rfl⟩)))))))
theorem c_turn {ws : WS} {x1 x2 : Int32} {P : Int32 → WS → Prop} (hcs : CS z tk nc Z ca cc ce so wk vl kp ws) (h1 : ∀ c, c < nc → x1 = nI c → ∀ (r : Int32) (t : WS) (Z2 kp2 : Nat → Nat), CS z tk nc Z2 ca cc ce so wk vl kp2 t → GW nc 200 Z kp ws Z2 kp2 t → TR (vl c) x2 r → P r t) (h0 : (x1 < 0 ∨ nI nc ≤ x1) → P (-2) ws) : Hr (F_X10_turn z x1 x2) ws P := by
  have hcs0 := hcs
  obtain ⟨hf, ha, hcv, hza, hnc, hzz, hwk⟩ := hcs
  have hf0 := hf
  unfold FO at hf0
  unfold F_X10_turn
  refine hb_dr hf0 (by decide) ?_
  refine q_curve hf ha hnc (fun c hc e => ?_) (fun hno => hr_t rfl (hr_rt (h0 hno)))
  refine hr_f (by simp) ?_
  obtain ⟨rc, fc, c1, c2, c3, -⟩ := hcv c hc
  refine hb_dr c1 c3.cls ?_
  refine hb_c (c_formed hnc hc hcv hza) (fun r t h => ?_)
  obtain ⟨Z2, kp2, fa, rfl, hfd, g⟩ := h
  have hfd0 := hfd
  obtain ⟨ra, tc, tr, lo, hi, tn, f, d1, d2, d3, d4, d5, d6, -⟩ := hfd
  refine hb_dr d5 (by decide) ?_
  refine hb_c (c_turnNumbered hc hfd0) (fun r t2 h => ?_)
  obtain ⟨Z3, kp3, k1, k2, k3, k4⟩ := h
  exact hr_rt (h1 c hc e r t2 Z3 kp3 ((hcs0.gw d1 d2 g).gw k1 k2 k3) (GW.tr g k3 (by omega) (by omega)) k4)
theorem c_inverse {ws : WS} {x1 x2 : Int32} {P : Int32 → WS → Prop} (hcs : CS z tk nc Z ca cc ce so wk vl kp ws) (h1 : ∀ c, c < nc → x1 = nI c → ∀ (r : Int32) (t : WS) (Z2 kp2 : Nat → Nat), CS z tk nc Z2 ca cc ce so wk vl kp2 t → GW nc 200 Z kp ws Z2 kp2 t → NR (vl c) x2 r → P r t) (h0 : (x1 < 0 ∨ nI nc ≤ x1) → P (-2) ws) : Hr (F_X10_inverse z x1 x2) ws P := by
  have hcs0 := hcs
  obtain ⟨hf, ha, hcv, hza, hnc, hzz, hwk⟩ := hcs
  have hf0 := hf
  unfold FO at hf0
  unfold F_X10_inverse
  refine hb_dr hf0 (by decide) ?_
  refine q_curve hf ha hnc (fun c hc e => ?_) (fun hno => hr_t rfl (hr_rt (h0 hno)))
  refine hr_f (by simp) ?_
  obtain ⟨rc, fc, c1, c2, c3, -⟩ := hcv c hc
  refine hb_dr c1 c3.cls ?_
  refine hb_c (c_formed hnc hc hcv hza) (fun r t h => ?_)
  obtain ⟨Z2, kp2, fa, rfl, ⟨ra, tc, tr, lo, hi, tn, f, d1, d2, d3, d4, d5, d6, d7, d8, d9⟩, g⟩ := h
  refine hb_dr d5 (by decide) ?_
  refine hb_c (c_near d5 d8 d9 d6.1) (fun r t2 h => ?_)
  obtain ⟨rfl, k4⟩ := h
  exact hr_rt (h1 c hc e r t2 Z2 kp2 (hcs0.gw d1 d2 g) (GW.tr g GW.rf (by omega) (Nat.le_refl _)) k4)
end CALLS
