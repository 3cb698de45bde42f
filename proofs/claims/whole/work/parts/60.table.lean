/-! ===== one TABLE ===== -/
/-- how many ENTRIES -/
def en (st : Nat) : Nat := 4096 / st + 1
theorem en_b {st : Nat} (h : st = 16 ∨ st = 64 ∨ st = 256) : en st ≤ 257 ∧ 1 ≤ en st ∧ ∀ x, x < 4096 → x / st + 1 < en st := by
  unfold en
  rcases h with rfl | rfl | rfl
  · exact ⟨by decide, by decide, fun x hx => by omega⟩
  · exact ⟨by decide, by decide, fun x hx => by omega⟩
  · exact ⟨by decide, by decide, fun x hx => by omega⟩
def T1 (h : Nat → Option PE) (o cv : Nat) (v : Nat → Int32) (st : Nat) : Prop := ∃ (far : UInt64) (fat : Int32) (f : Nat → UInt32), h o = some (ob 8 [.ref (o + 1), .ref cv, .int (nI st), .int (nI (en st)), .double far, .int fat]) ∧ h (o + 1) = some (cF 257 f) ∧ (∀ k, k < en st → f k = TE v st k) ∧ (fat = -1 ∨ (fat = nI (TB v st 4096) ∧ far = TO v st (TB v st 4096)))
theorem T1.keep {h h2 : Nat → Option PE} {o cv st : Nat} {v : Nat → Int32} (ht : T1 h o cv v st) (h0 : h2 o = h o) (h1 : h2 (o + 1) = h (o + 1)) : T1 h2 o cv v st := by
  obtain ⟨far, fat, f, a, b, c, d⟩ := ht
  exact ⟨far, fat, f, h0.trans a, h1.trans b, c, d⟩
theorem c_read {ws : WS} {o st x : Nat} {v : Nat → Int32} {f : Nat → UInt32} {e1 e3 e4 e5 : Value} (hst : st = 16 ∨ st = 64 ∨ st = 256) (hx : x < 4096) (h0 : ws.1 o = some (ob 8 [.ref (o + 1), e1, .int (nI st), e3, e4, e5])) (h1 : ws.1 (o + 1) = some (cF 257 f)) (hf : ∀ k, k < en st → f k = TE v st k) : Hr (F_X9_read o (nI x)) ws (fun r t => t = ws ∧ r = TL v st x) := by
  obtain ⟨n1, n2, n3, n4⟩ := isSt hst
  obtain ⟨b1, b2, b3⟩ := en_b hst
  have b4 := b3 x hx
  have hdx : x / st ≤ x := Nat.div_le_self _ _
  unfold F_X9_read
  refine hb_gI h0 (by decide) rfl ?_
  refine hb_ck n2 ?_
  refine hb_rt ?_
  rw [pk_div (by omega) n3 n4]
  refine hb_gI h0 (by decide) rfl ?_
  refine hb_gI h0 (by decide) rfl ?_
  rw [pk_mul, pk_sub (Nat.div_mul_le_self x st)]
  refine hb_ck ((part_m hst).nn (by decide)) ?_
  refine hb_rt ?_
  rw [nI_1]
  refine hb_gRs h0 (by decide) rfl ?_
  refine hb_aF h1 (nI_in (by omega) (by decide)) ?_
  refine hb_gRs h0 (by decide) rfl ?_
  refine hb_aF h1 (nI_in (by omega) (by decide)) ?_
  refine hb_gRs h0 (by decide) rfl ?_
  refine hb_aF h1 (nI_in (by omega) (by decide)) ?_
  rw [nI_clamp (show x / st < 2 ^ 31 by omega), nI_clamp (show x / st + 1 < 2 ^ 31 by omega), hf (x / st) (by omega), hf (x / st + 1) (by omega)]
  refine hb_ck (sub_m.nn (by decide)) ?_
  refine hb_rt ?_
  refine hb_ck ((mul_m hst).nn (by decide)) ?_
  refine hb_rt ?_
  refine hb_ck ((tl_m (v := v) (x := x) hst).nn (by decide)) ?_
  exact hb_rt (hr_rt ⟨rfl, rfl⟩)
theorem ncl_min {y : Nat} (h : y < 2 ^ 31) : ncl (nI y) = nI (min y 4095) := by
  unfold ncl
  by_cases c1 : y < 4095
  · rw [if_pos (show nI y < (4095 : Int32) from nI_lt (a := y) (b := 4095) c1 (by decide)), show min y 4095 = y by omega]
    by_cases c2 : 0 < y
    · rw [if_pos (show (0 : Int32) < nI y from nI_lt (a := 0) (b := y) c2 (by omega))]
    · rw [show y = 0 by omega]
      rfl
  · rw [if_neg (show ¬ nI y < (4095 : Int32) from nI_nlt (a := y) (b := 4095) (by omega) h), show min y 4095 = 4095 by omega]
    decide
section TAB
variable {z tk nc : Nat} {Z ca cc : Nat → Nat} {ce : Nat → List Value} {so : Nat → Int32} {wk : Nat → Nat} {vl : Nat → Nat → Int32} {kp : Nat → Nat} {ws : WS}
theorem c_become {o c st : Nat} {e1 e2 e3 e4 e5 : Value} {f : Nat → UInt32} (hcs : CS z tk nc Z ca cc ce so wk vl kp ws) (hc : c < nc) (hst : st = 16 ∨ st = 64 ∨ st = 256) (hz : Z o = 3 ∧ Z (o + 1) = 3) (h0 : ws.1 o = some (ob 8 [.ref (o + 1), e1, e2, e3, e4, e5])) (hd : ∃ far, e4 = .double far) (h1 : ws.1 (o + 1) = some (cF 257 f)) : Hr (F_X9_become o (some (ca c)) (nI st)) ws (fun r t => r = nI (en st) ∧ T1 t.1 o (ca c) (vl c) st ∧ t.2 = ws.2 ∧ ∀ q, q ≠ o → q ≠ o + 1 → t.1 q = ws.1 q) := by
  obtain ⟨far, rfl⟩ := hd
  obtain ⟨n1, n2, n3, n4⟩ := isSt hst
  obtain ⟨b1, b2, b3⟩ := en_b hst
  have hsz : (4096 : Int32) / nI st + 1 = nI (en st) := by
    rw [show (4096 : Int32) = nI 4096 from rfl, pk_div (by decide) n3 n4, nI_1]
    rfl
  unfold F_X9_become
  refine hb_pV h0 (by decide) (by simp) ?_
  refine hb_pV (up_eq rfl) (by decide) (by simp) ?_
  refine hb_ck n2 ?_
  rw [hsz]
  refine hb_pV (up_eq rfl) (by decide) (by simp) ?_
  refine hb_pV (up_eq rfl) (by decide) (by simp) ?_
  refine hr_loop (σ := Int32) (fun k s => l_X9_become_28 o (some (ca c)) (nI st) _ k s) (fun rec s => b_X9_become_28 o (some (ca c)) (nI st) rec _ s) (fun k s => rfl) (en st) (fun k s t => s = nI k ∧ t.2 = ws.2 ∧ (∀ q, q ≠ o → q ≠ o + 1 → t.1 q = ws.1 q) ∧ t.1 o = some (ob 8 [.ref (o + 1), .ref (ca c), .int (nI st), .int (nI (en st)), .double far, .int (-1)]) ∧ ∃ f2 : Nat → UInt32, t.1 (o + 1) = some (cF 257 f2) ∧ ∀ j, j < k → f2 j = TE (vl c) st j) ?_ ?_ (en st) FU 0 0 _ (by unfold FU; omega) (by omega) ⟨rfl, rfl, fun q a b => up_ne a (up_ne a (up_ne a (up_ne a rfl))), up_eq rfl, f, up_ne (by omega) (up_ne (by omega) (up_ne (by omega) (up_ne (by omega) h1))), fun j h => absurd h (Nat.not_lt_zero _)⟩
  · intro k s t rec hk hI hrec
    obtain ⟨rfl, t1, t2, t3, f2, t4, t5⟩ := hI
    have hcv := (hcs.keep (t := t) (Z2 := Z) (fun q hq => ⟨rfl, t2 q (fun e => ?_) (fun e => ?_)⟩) (by rw [t1]; exact hcs.2.2.2.1)).2.2.1
    · have hks : k * st < 2 ^ 31 := by
        have : k * st ≤ 257 * 256 := Nat.mul_le_mul (by omega) (by omega)
        omega
      unfold b_X9_become_28
      refine hb_gI t3 (by decide) rfl ?_
      refine hr_f (nI_ge hk (by omega)) ?_
      refine hb_gRs t3 (by decide) rfl ?_
      rw [pk_mul]
      unfold F_X10_nearestCount
      refine hb_rt ?_
      rw [show (if (0 : Int32) < (if nI (k * st) < (4095 : Int32) then nI (k * st) else (4095 : Int32)) then (if nI (k * st) < (4095 : Int32) then nI (k * st) else (4095 : Int32)) else (0 : Int32)) = nI (min (k * st) 4095) from ncl_min hks]
      obtain ⟨cj, fj, cj1, cj2⟩ := (hcv c hc).isO
      refine hb_dr cj2 cj1 ?_
      have hn60 := hcs.2.2.2.2.1
      refine hb_c (c_at hcv c hc 64 (by omega) (min (k * st) 4095) (by omega)) (fun r u h => ?_)
      obtain ⟨rfl, rfl⟩ := h
      refine hb_ck ((te_m (v := vl c) (st := st) (k := k)).nn (by decide)) ?_
      refine hb_rt ?_
      refine hb_sF t4 (nI_in (by omega) (by decide)) ?_
      rw [nI_clamp (by omega), nI_1]
      refine hrec _ _ ⟨rfl, t1, fun q a b => up_ne b (t2 q a b), up_ne (by omega) t3, _, up_eq rfl, fun j hj => ?_⟩
      by_cases e : j = k
      · rw [e, vu_s]
        rfl
      · rw [vu_n e]
        exact t5 j (by omega)
    · have hzz := hcs.2.2.2.2.2.1
      rcases hq with hq | hq | hq
      · rw [← hq, e] at hzz; omega
      · rw [e] at hq; rw [← hq] at hzz; omega
      · rw [e] at hq; omega
    · have hzz := hcs.2.2.2.2.2.1
      rcases hq with hq | hq | hq
      · rw [← hq, e] at hzz; omega
      · rw [e] at hq; rw [← hq] at hzz; omega
      · rw [e] at hq; omega
  · intro s t rec hI
    obtain ⟨rfl, t1, t2, t3, f2, t4, t5⟩ := hI
    unfold b_X9_become_28
    refine hb_gI t3 (by decide) rfl ?_
    refine hr_t (Int32.le_refl _) ?_
    refine hb_gI t3 (by decide) rfl ?_
    exact hr_rt ⟨rfl, ⟨far, -1, f2, t3, t4, t5, Or.inl rfl⟩, t1, t2⟩
/-- what measure comes to -/
def MS (z tk nc : Nat) (Z ca cc : Nat → Nat) (ce : Nat → List Value) (so : Nat → Int32) (wk : Nat → Nat) (vl : Nat → Nat → Int32) (kp : Nat → Nat) (ws : WS) (o c st : Nat) (t : WS) : Prop := ∃ (Z2 kp2 : Nat → Nat) (f : Nat → UInt32), CS z tk nc Z2 ca cc ce so wk vl kp2 t ∧ (∀ q, ¬ Z q = 0 → Z2 q = Z q) ∧ (∀ q, ¬ Z q = 0 → Z q ≤ 4 → q ≠ o → t.1 q = ws.1 q) ∧ t.2.1 + Sm kp2 nc ≤ ws.2.1 + Sm kp nc ∧ t.2.2 + 4096 * Sm kp2 nc ≤ ws.2.2 + 4096 * Sm kp nc ∧ t.1 o = some (ob 8 [.ref (o + 1), .ref (ca c), .int (nI st), .int (nI (en st)), .double (TO (vl c) st (TB (vl c) st 4096)), .int (nI (TB (vl c) st 4096))]) ∧ t.1 (o + 1) = some (cF 257 f) ∧ ∀ k, k < en st → f k = TE (vl c) st k
theorem MS.t1 {o c st : Nat} {t : WS} (h : MS z tk nc Z ca cc ce so wk vl kp ws o c st t) : T1 t.1 o (ca c) (vl c) st := by
  obtain ⟨Z2, kp2, f, -, -, -, -, -, a, b, d⟩ := h
  exact ⟨_, _, f, a, b, d, Or.inr ⟨rfl, rfl⟩⟩
theorem c_measure {o c st : Nat} (hcs : CS z tk nc Z ca cc ce so wk vl kp ws) (hc : c < nc) (hst : st = 16 ∨ st = 64 ∨ st = 256) (hz : Z o = 3 ∧ Z (o + 1) = 3) (ht : T1 ws.1 o (ca c) (vl c) st) : Hr (F_X9_measure o) ws (fun _ t => MS z tk nc Z ca cc ce so wk vl kp ws o c st t) := by
  obtain ⟨far, fat, f, h0, h1, h2, h3⟩ := ht
  have hb := TB_lt (v := vl c) (st := st) 4096 (by decide)
  unfold F_X9_measure
  refine hb_gI h0 (by decide) rfl ?_
  rcases h3 with e | ⟨e, e2⟩
  · subst e
    refine hr_t rfl ?_
    refine hb_gRs h0 (by decide) rfl ?_
    refine hr_f (by simp) ?_
    refine hb_gRs h0 (by decide) rfl ?_
    have hcs0 := hcs
    obtain ⟨hf, ha, hcv, hza, hnc, hzz, hwk⟩ := hcs
    obtain ⟨rr, fm, c1, c2, c3, -⟩ := hcv c hc
    refine hb_dr c1 c3.cls ?_
    refine hb_c (c_filled hnc c hc 64 (by omega) ws Z kp rr fm hcv hza c1) (fun r t1 h => ?_)
    obtain ⟨Z2, kp2, a, fr, rfl, k1, k2, k3, -, k5, k6, k7⟩ := h
    have hcs1 := hcs0.gw k1 k2 k3
    have ho : t1.1 o = _ := (k3.2.1 o (by omega) (by omega)).trans h0
    have ho1 : t1.1 (o + 1) = _ := (k3.2.1 (o + 1) (by omega) (by omega)).trans h1
    have hz2 : Z2 o = 3 := (k3.1 o (by omega)).trans hz.1
    have hao : a ≠ o := fun e => by rw [e] at k5; omega
    refine hb_pV ho (by decide) (by simp) ?_
    refine hr_loop (σ := Int32) (fun k s => l_X9_measure_33 o (some a) _ k s) (fun rec s => b_X9_measure_33 o (some a) rec _ s) (fun k s => rfl) 4096 (fun x s t => s = nI x ∧ t.2 = t1.2 ∧ (∀ q, q ≠ o → t.1 q = t1.1 q) ∧ ∃ (fa : UInt64) (ft : Int32), t.1 o = some (ob 8 [.ref (o + 1), .ref (ca c), .int (nI st), .int (nI (en st)), .double fa, .int ft]) ∧ ((x = 0 ∧ fa = 13830554455654793216) ∨ (1 ≤ x ∧ fa = TO (vl c) st (TB (vl c) st x) ∧ ft = nI (TB (vl c) st x)))) ?_ ?_ 4096 FU 0 0 _ (by decide) rfl ⟨rfl, rfl, fun q hq => up_ne hq rfl, 13830554455654793216, -1, up_eq rfl, Or.inl ⟨rfl, rfl⟩⟩
    · intro x s t rec hx hI hrec
      obtain ⟨rfl, t2, t3, fa, ft, t4, t5⟩ := hI
      have hoe : t.1 (o + 1) = _ := (t3 (o + 1) (by omega)).trans ho1
      have hra : t.1 a = _ := (t3 a hao).trans k6
      unfold b_X9_measure_33
      refine hr_f (nI_ge (a := x) (b := 4096) hx (by decide)) ?_
      refine hb_dr t4 (by decide) ?_
      refine hb_c (c_read (v := vl c) hst hx t4 hoe h2) (fun r u h => ?_)
      obtain ⟨rfl, rfl⟩ := h
      refine hb_ck (dfin_nn (f2d_fin (tl_m hst) (by decide))) ?_
      refine hb_rt ?_
      refine hb_aI hra (nI_in hx (by decide)) ?_
      rw [nI_clamp (by omega), k7 x hx]
      refine hb_ck ((dv_m _).nn (by decide)) ?_
      refine hb_rt ?_
      have hn := td_n (v := vl c) (st := st) (x := x) hst
      refine hb_ck (dn_nn hn) ?_
      refine hb_rt ?_
      have h68 : Hr (j_X9_measure_68 rec (rt ()) o (some a) (nI x) (TO (vl c) st x)) u (fun _ t => MS z tk nc Z ca cc ce so wk vl kp ws o c st t) := by
        unfold j_X9_measure_68 j_X9_measure_91
        refine hb_gD t4 (by decide) rfl ?_
        rw [nI_1]
        rcases t5 with ⟨rfl, rfl⟩ | ⟨x1, rfl, rfl⟩
        · refine hr_f (da_pos hn) ?_
          refine hb_pV t4 (by decide) (by simp) ?_
          refine hb_pV (up_eq rfl) (by decide) (by simp) ?_
          refine hrec _ _ ⟨rfl, t2, fun q hq => up_ne hq (up_ne hq (t3 q hq)), TO (vl c) st 0, nI 0, up_eq rfl, Or.inr ⟨by omega, rfl, rfl⟩⟩
        · refine hr_br (fun b => ?_) (fun b => ?_)
          · have e : TB (vl c) st (x + 1) = TB (vl c) st x := by
              show (if x = 0 then _ else if _ then _ else _) = _
              rw [if_neg (by omega), if_pos b]
            refine hrec _ _ ⟨rfl, t2, t3, _, _, t4, Or.inr ⟨by omega, by rw [e], by rw [e]⟩⟩
          · have e : TB (vl c) st (x + 1) = x := by
              show (if x = 0 then _ else if _ then _ else _) = _
              rw [if_neg (by omega), if_neg b]
            refine hb_pV t4 (by decide) (by simp) ?_
            refine hb_pV (up_eq rfl) (by decide) (by simp) ?_
            refine hrec _ _ ⟨rfl, t2, fun q hq => up_ne hq (up_ne hq (t3 q hq)), TO (vl c) st x, nI x, up_eq rfl, Or.inr ⟨by omega, by rw [e], by rw [e]⟩⟩
      unfold TO DA TD at h68
      refine hr_br (fun b => ?_) (fun b => ?_)
      · rw [if_pos b] at h68
        exact h68
      · rw [if_neg b] at h68
        exact h68
    · intro s t rec hI
      obtain ⟨rfl, t2, t3, fa, ft, t4, t5⟩ := hI
      rcases t5 with ⟨e, -⟩ | ⟨x1, rfl, rfl⟩
      · omega
      · unfold b_X9_measure_33
        refine hr_t (by decide) (hr_rt ?_)
        have hoe : t.1 (o + 1) = _ := (t3 (o + 1) (by omega)).trans ho1
        refine ⟨Z2, kp2, f, hcs1.keep (fun q hq => ⟨rfl, t3 q (fun e => ?_)⟩) (by rw [t2]; exact k2), k3.1, fun q a1 a2 a3 => (t3 q a3).trans (k3.2.1 q a1 (Or.inl a2)), by rw [t2]; exact k3.2.2.1, by rw [t2]; exact k3.2.2.2, t4, hoe, h2⟩
        have hzz2 := hcs1.2.2.2.2.2.1
        rcases hq with hq | hq | hq
        · rw [← hq, e] at hzz2; omega
        · rw [e] at hq; rw [← hq] at hzz2; omega
        · rw [e] at hq; omega
  · subst e
    subst e2
    refine hr_f (fun h => ?_) (hr_rt ⟨Z, kp, f, hcs, fun _ _ => rfl, fun _ _ _ _ => rfl, Nat.le_refl _, Nat.le_refl _, h0, h1, h2⟩)
    have := nI_pos (n := TB (vl c) st 4096) (by omega)
    rw [h] at this
    exact this (by decide)
end TAB
