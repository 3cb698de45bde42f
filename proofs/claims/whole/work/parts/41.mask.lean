/-! ===== asking curves, the reference's ===== -/
section MASK
variable {am nc kn c : Nat} {f v : Nat → Int32} {ws : WS}
theorem b01_or0 {a : Int32} {Q R : Prop} (h : b01 a Q) (hr : R ↔ Q) : b01 (a ||| 0) R := by
  rcases h with ⟨rfl, h⟩ | ⟨rfl, h⟩
  · exact Or.inl ⟨by decide, fun z => h (hr.mp z)⟩
  · exact Or.inr ⟨by decide, hr.mpr h⟩
theorem b01_or1 {a : Int32} {Q R : Prop} (h : b01 a Q) (hr : R) : b01 (a ||| 1) R := by
  rcases h with ⟨rfl, h⟩ | ⟨rfl, h⟩
  · exact Or.inr ⟨by decide, hr⟩
  · exact Or.inr ⟨by decide, hr⟩
theorem m_way (hm : MO ws.1 am nc kn) (h7 : ws.1 (am + 7) = some (cI 245760 f)) (hc : c < 60) (hv : ∀ x, x < 4096 → f (4096 * c + x) = v x) : Hr (F_X11_way am (nI c)) ws (fun r t => t = ws ∧ FT v r) := by
  have hm0 := hm
  unfold MO at hm0
  unfold F_X11_way
  refine hr_loop (σ := Int32 × Int32 × Int32) (fun n s => l_X11_way_7 am (nI c) _ n s.1 s.2.1 s.2.2) (fun rec s => b_X11_way_7 am (nI c) (fun a b d => rec (a, b, d)) _ s.1 s.2.1 s.2.2) (fun n s => rfl) 4096 (fun x s w => w = ws ∧ 1 ≤ x ∧ s.2.2 = nI x ∧ b01 s.1 (ups v x) ∧ b01 s.2.1 (downs v x)) ?_ ?_ 4095 FU 1 (0, 0, 1) _ (by decide) rfl ⟨rfl, Nat.le_refl _, rfl, Or.inl ⟨rfl, ups_1⟩, Or.inl ⟨rfl, downs_1⟩⟩
  · intro x s w rec hx hI hrec
    obtain ⟨u, d, xx⟩ := s
    obtain ⟨rfl, h1, e, hu, hd⟩ := hI
    dsimp only at e hu hd ⊢
    subst e
    have h67 : ∀ u2 d2 : Int32, b01 u2 (ups v (x + 1)) → b01 (d ||| d2) (downs v (x + 1)) → Hr (j_X11_way_67 (fun a b d => rec (a, b, d)) (fun e14 e15 => br (e14 = 0) (j_X11_way_87 e14 e15) (br (e15 = 0) (j_X11_way_87 e14 e15) (rt (0 : Int32)))) am (nI c) u2 (nI x) d d2) w (fun r t => t = w ∧ FT v r) := by
      intro u2 d2 hu2 hd2
      unfold j_X11_way_67
      refine hb_rt ?_
      rw [nI_1]
      exact hrec _ _ ⟨rfl, by omega, rfl, hu2, hd2⟩
    have h40 : ∀ u2 : Int32, b01 (u ||| u2) (ups v (x + 1)) → Hr (j_X11_way_40 (fun a b d => rec (a, b, d)) (fun e14 e15 => br (e14 = 0) (j_X11_way_87 e14 e15) (br (e15 = 0) (j_X11_way_87 e14 e15) (rt (0 : Int32)))) am (nI c) d (nI x) u u2) w (fun r t => t = w ∧ FT v r) := by
      intro u2 hu2
      unfold j_X11_way_40
      rw [nI_pred1 (show 0 < x by omega)]
      refine hb_rt ?_
      refine hb_dr hm0 (by decide) ?_
      refine q_of hm h7 hc hx ?_
      refine hb_dr hm0 (by decide) ?_
      refine q_of hm h7 hc (show x - 1 < 4096 by omega) ?_
      rw [hv x hx, hv (x - 1) (by omega)]
      refine hr_br (fun b1 => h67 _ 0 hu2 (b01_or0 hd ?_)) (fun b1 => h67 _ 1 hu2 (b01_or1 hd ((downs_s h1).mpr (Or.inr (Int32.not_le.mp b1)))))
      rw [downs_s h1]
      exact ⟨fun z => z.elim id (fun z => absurd b1 (Int32.not_le.mpr z)), Or.inl⟩
    unfold b_X11_way_7
    refine hr_f (nI_ge (a := x) (b := 4096) hx (by decide)) ?_
    rw [nI_pred1 (show 0 < x by omega)]
    refine hb_dr hm0 (by decide) ?_
    refine q_of hm h7 hc hx ?_
    refine hb_dr hm0 (by decide) ?_
    refine q_of hm h7 hc (show x - 1 < 4096 by omega) ?_
    rw [hv x hx, hv (x - 1) (by omega)]
    refine hr_br (fun b1 => h40 0 (b01_or0 hu ?_)) (fun b1 => h40 1 (b01_or1 hu ((ups_s h1).mpr (Or.inr (Int32.not_le.mp b1)))))
    rw [ups_s h1]
    exact ⟨fun z => z.elim id (fun z => absurd b1 (Int32.not_le.mpr z)), Or.inl⟩
  · intro s w rec hI
    obtain ⟨u, d, xx⟩ := s
    obtain ⟨rfl, h1, e, hu, hd⟩ := hI
    dsimp only at e hu hd ⊢
    subst e
    unfold b_X11_way_7
    refine hr_t (by decide) ?_
    rcases hu with ⟨rfl, hu⟩ | ⟨rfl, hu⟩ <;> rcases hd with ⟨rfl, hd⟩ | ⟨rfl, hd⟩
    · refine hr_t rfl ?_
      unfold j_X11_way_87
      exact hr_t rfl (hr_t rfl (hr_rt ⟨rfl, Or.inr (Or.inr (Or.inr ⟨hu, hd, rfl⟩))⟩))
    · refine hr_t rfl ?_
      unfold j_X11_way_87
      exact hr_t rfl (hr_f (by decide) (hr_rt ⟨rfl, Or.inr (Or.inr (Or.inl ⟨hu, hd, rfl⟩))⟩))
    · refine hr_f (by decide) (hr_t rfl ?_)
      unfold j_X11_way_87
      exact hr_f (by decide) (hr_rt ⟨rfl, Or.inr (Or.inl ⟨hu, hd, rfl⟩)⟩)
    · exact hr_f (by decide) (hr_f (by decide) (hr_rt ⟨rfl, Or.inl ⟨hu, hd, rfl⟩⟩))
theorem neg_sw {a b : Int32} : a = -b ↔ b = -a := by
  constructor
  · intro h
    rw [h, Int32.neg_neg]
  · intro h
    rw [h, Int32.neg_neg]
theorem m_turning {k : Int32} (hm : MO ws.1 am nc kn) (h7 : ws.1 (am + 7) = some (cI 245760 f)) (hc : c < 60) (hv : ∀ x, x < 4096 → f (4096 * c + x) = v x) : Hr (F_X11_turning am (nI c) k) ws (fun r t => t = ws ∧ (¬ k < 0 → TR v k r) ∧ (k < 0 → r = nI (ts v 4096).2 - 1)) := by
  have hm0 := hm
  unfold MO at hm0
  unfold F_X11_turning
  refine hr_loop (σ := Int32 × Int32 × Int32) (fun n s => l_X11_turning_8 am (nI c) k _ n s.1 s.2.1 s.2.2) (fun rec s => b_X11_turning_8 am (nI c) k (fun a b d => rec (a, b, d)) _ s.1 s.2.1 s.2.2) (fun n s => rfl) 4096 (fun x s w => w = ws ∧ 1 ≤ x ∧ s = ((ts v x).1, nI (ts v x).2, nI x) ∧ ∀ y, y < x → isT v y → ¬ k = nI (ts v y).2) ?_ ?_ 4095 FU 1 (0, 0, 1) _ (by decide) rfl ⟨rfl, Nat.le_refl _, rfl, fun y hy hT => by have := hT.1; omega⟩
  · intro x s w rec hx hI hrec
    obtain ⟨rfl, h1, rfl, hno⟩ := hI
    have htl := ts_le (v := v) x
    dsimp only
    have h63 : Hr (j_X11_turning_63 (fun a b d => rec (a, b, d)) (fun e16 => br (0 ≤ k) (rt (-1 : Int32)) (rt (e16 - (1 : Int32)))) am (nI c) k (ts v x).1 (nI (ts v x).2) (nI x) (wy v x)) w (fun r t => t = w ∧ (¬ k < 0 → TR v k r) ∧ (k < 0 → r = nI (ts v 4096).2 - 1)) := by
      unfold j_X11_turning_63
      by_cases w0 : wy v x = 0
      · refine hr_t w0 ?_
        unfold j_X11_turning_89 j_X11_turning_100
        refine hr_t w0 ?_
        rw [nI_1]
        refine hrec _ _ ⟨rfl, by omega, by rw [ts_eq w0 h1], fun y hy hT => ?_⟩
        by_cases e : y = x
        · rw [e] at hT
          exact absurd w0 hT.2.1
        · exact hno y (by omega) hT
      · refine hr_f w0 ?_
        by_cases wt : (ts v x).1 = -wy v x
        · refine hr_t wt ?_
          have hT : isT v x := ⟨h1, w0, neg_sw.mp wt⟩
          by_cases hk : nI (ts v x).2 = k
          · refine hr_t hk (hr_rt ⟨rfl, fun _ => Or.inr ⟨x, hx, hT, hk.symm, rfl⟩, fun hk0 => ?_⟩)
            rw [← hk] at hk0
            exact absurd hk0 (nI_pos (by omega))
          · refine hr_f hk ?_
            unfold j_X11_turning_89 j_X11_turning_100
            refine hr_f w0 ?_
            rw [nI_1, nI_1]
            refine hrec _ _ ⟨rfl, by omega, by rw [ts_turn hT], fun y hy hTy => ?_⟩
            by_cases e : y = x
            · rw [e]
              exact fun z => hk z.symm
            · exact hno y (by omega) hTy
        · refine hr_f wt ?_
          unfold j_X11_turning_89 j_X11_turning_100
          refine hr_f w0 ?_
          rw [nI_1]
          refine hrec _ _ ⟨rfl, by omega, by rw [ts_no h1 w0 (fun z => wt (neg_sw.mp z))], fun y hy hTy => ?_⟩
          by_cases e : y = x
          · rw [e] at hTy
            exact absurd (neg_sw.mp hTy.2.2) wt
          · exact hno y (by omega) hTy
    unfold b_X11_turning_8
    refine hr_f (nI_ge (a := x) (b := 4096) hx (by decide)) ?_
    rw [nI_pred1 (show 0 < x by omega)]
    refine hb_dr hm0 (by decide) ?_
    refine q_of hm h7 hc hx ?_
    refine hb_dr hm0 (by decide) ?_
    refine q_of hm h7 hc (show x - 1 < 4096 by omega) ?_
    rw [hv x hx, hv (x - 1) (by omega)]
    unfold wy at h63
    refine hr_br (fun b1 => ?_) (fun b1 => ?_)
    · refine hb_dr hm0 (by decide) ?_
      refine q_of hm h7 hc hx ?_
      refine hb_dr hm0 (by decide) ?_
      refine q_of hm h7 hc (show x - 1 < 4096 by omega) ?_
      rw [hv x hx, hv (x - 1) (by omega)]
      refine hr_br (fun b2 => ?_) (fun b2 => ?_)
      · rw [if_pos (Int32.le_antisymm b1 b2)] at h63
        exact h63
      · rw [if_neg (fun e => b2 (by rw [e]; exact Int32.le_refl _)), if_pos b1] at h63
        exact h63
    · rw [if_neg (fun e => b1 (by rw [e]; exact Int32.le_refl _)), if_neg b1] at h63
      exact h63
  · intro s w rec hI
    obtain ⟨rfl, h1, rfl, hno⟩ := hI
    dsimp only
    unfold b_X11_turning_8
    refine hr_t (by decide) ?_
    by_cases hk : k < 0
    · refine hr_f (Int32.not_le.mpr hk) (hr_rt ⟨rfl, fun h => absurd hk h, fun _ => rfl⟩)
    · refine hr_t (Int32.not_lt.mp hk) (hr_rt ⟨rfl, fun _ => Or.inl ⟨Or.inr ?_, rfl⟩, fun h => absurd h hk⟩)
      obtain ⟨j, hj, e⟩ := nI_of hk
      by_cases hjt : j < (ts v 4096).2
      · obtain ⟨y, y1, y2, y3⟩ := ts_ex (v := v) (k := j) 4096 hjt
        exact absurd (by rw [e, y3]) (hno y y1 y2)
      · rw [e]
        exact nI_le (by omega) hj
theorem m_endLo (hm : MO ws.1 am nc kn) (h7 : ws.1 (am + 7) = some (cI 245760 f)) (hc : c < 60) (hv : ∀ x, x < 4096 → f (4096 * c + x) = v x) : Hr (F_X11_end am (nI c) 0) ws (fun r t => t = ws ∧ isLo v 4096 r) := by
  have hm0 := hm
  unfold MO at hm0
  unfold F_X11_end
  refine hb_dr hm0 (by decide) ?_
  refine q_of (x := 0) hm h7 hc (by decide) ?_
  rw [hv 0 (by decide)]
  refine hr_loop (σ := Int32 × Int32) (fun n s => l_X11_end_10 am (nI c) 0 _ n s.1 s.2) (fun rec s => b_X11_end_10 am (nI c) 0 (fun a b => rec (a, b)) _ s.1 s.2) (fun n s => rfl) 4096 (fun x s w => w = ws ∧ 1 ≤ x ∧ s.2 = nI x ∧ isLo v x s.1) ?_ ?_ 4095 FU 1 (v 0, 1) _ (by decide) rfl ⟨rfl, Nat.le_refl _, rfl, lo_1⟩
  · intro x s w rec hx hI hrec
    obtain ⟨b, xx⟩ := s
    obtain ⟨rfl, h1, e, hlo⟩ := hI
    dsimp only at e hlo ⊢
    subst e
    have hls := lo_s hlo
    unfold b_X11_end_10
    refine hr_f (nI_ge (a := x) (b := 4096) hx (by decide)) ?_
    refine hb_dr hm0 (by decide) ?_
    refine q_of hm h7 hc hx ?_
    rw [hv x hx]
    refine hr_br (fun b1 => ?_) (fun b1 => ?_)
    · unfold j_X11_end_35
      refine hr_t rfl ?_
      refine hb_dr hm0 (by decide) ?_
      refine q_of hm h7 hc hx ?_
      rw [hv x hx]
      refine hr_br (fun b2 => ?_) (fun b2 => ?_)
      · unfold j_X11_end_59 j_X11_end_60
        rw [nI_1]
        refine hrec _ _ ⟨rfl, by omega, rfl, ?_⟩
        rw [if_neg (by rw [b2]; exact fun h => Int32.lt_irrefl h)] at hls
        exact hls
      · refine hb_dr hm0 (by decide) ?_
        refine q_of hm h7 hc hx ?_
        rw [hv x hx]
        unfold j_X11_end_60
        rw [nI_1]
        refine hrec _ _ ⟨rfl, by omega, rfl, ?_⟩
        rw [if_pos (Int32.lt_of_le_of_ne b1 b2)] at hls
        exact hls
    · unfold j_X11_end_35
      refine hr_f (by decide) ?_
      unfold j_X11_end_59 j_X11_end_60
      rw [nI_1]
      refine hrec _ _ ⟨rfl, by omega, rfl, ?_⟩
      rw [if_neg (fun h => b1 (Int32.le_of_lt h))] at hls
      exact hls
  · intro s w rec hI
    obtain ⟨b, xx⟩ := s
    obtain ⟨rfl, h1, e, hlo⟩ := hI
    dsimp only at e hlo ⊢
    subst e
    unfold b_X11_end_10
    exact hr_t (by decide) (hr_rt ⟨rfl, hlo⟩)
theorem m_endHi (hm : MO ws.1 am nc kn) (h7 : ws.1 (am + 7) = some (cI 245760 f)) (hc : c < 60) (hv : ∀ x, x < 4096 → f (4096 * c + x) = v x) : Hr (F_X11_end am (nI c) 1) ws (fun r t => t = ws ∧ isHi v 4096 r) := by
  have hm0 := hm
  unfold MO at hm0
  unfold F_X11_end
  refine hb_dr hm0 (by decide) ?_
  refine q_of (x := 0) hm h7 hc (by decide) ?_
  rw [hv 0 (by decide)]
  refine hr_loop (σ := Int32 × Int32) (fun n s => l_X11_end_10 am (nI c) 1 _ n s.1 s.2) (fun rec s => b_X11_end_10 am (nI c) 1 (fun a b => rec (a, b)) _ s.1 s.2) (fun n s => rfl) 4096 (fun x s w => w = ws ∧ 1 ≤ x ∧ s.2 = nI x ∧ isHi v x s.1) ?_ ?_ 4095 FU 1 (v 0, 1) _ (by decide) rfl ⟨rfl, Nat.le_refl _, rfl, hi_1⟩
  · intro x s w rec hx hI hrec
    obtain ⟨b, xx⟩ := s
    obtain ⟨rfl, h1, e, hlo⟩ := hI
    dsimp only at e hlo ⊢
    subst e
    have hls := hi_s hlo
    unfold b_X11_end_10
    refine hr_f (nI_ge (a := x) (b := 4096) hx (by decide)) ?_
    refine hb_dr hm0 (by decide) ?_
    refine q_of hm h7 hc hx ?_
    rw [hv x hx]
    refine hr_br (fun b1 => ?_) (fun b1 => ?_)
    · unfold j_X11_end_35
      refine hr_f (by decide) ?_
      unfold j_X11_end_59 j_X11_end_60
      rw [nI_1]
      refine hrec _ _ ⟨rfl, by omega, rfl, ?_⟩
      rw [if_neg (Int32.not_lt.mpr b1)] at hls
      exact hls
    · unfold j_X11_end_35
      refine hr_t rfl ?_
      refine hb_dr hm0 (by decide) ?_
      refine q_of hm h7 hc hx ?_
      rw [hv x hx]
      refine hr_f (fun e => b1 (by rw [e]; exact Int32.le_refl _)) ?_
      refine hb_dr hm0 (by decide) ?_
      refine q_of hm h7 hc hx ?_
      rw [hv x hx]
      unfold j_X11_end_60
      rw [nI_1]
      refine hrec _ _ ⟨rfl, by omega, rfl, ?_⟩
      rw [if_pos (Int32.not_le.mp b1)] at hls
      exact hls
  · intro s w rec hI
    obtain ⟨b, xx⟩ := s
    obtain ⟨rfl, h1, e, hlo⟩ := hI
    dsimp only at e hlo ⊢
    subst e
    unfold b_X11_end_10
    exact hr_t (by decide) (hr_rt ⟨rfl, hlo⟩)
theorem m_far {x : Nat} {k : Int32} (hm : MO ws.1 am nc kn) (h7 : ws.1 (am + 7) = some (cI 245760 f)) (hc : c < 60) (hv : ∀ x, x < 4096 → f (4096 * c + x) = v x) (hx : x < 4096) : Hr (F_X11_far am (nI c) (nI x) k) ws (fun r t => t = ws ∧ r.toInt = (((v x).toInt - k.toInt).natAbs : Int)) := by
  have hm0 := hm
  unfold MO at hm0
  unfold F_X11_far
  refine hb_dr hm0 (by decide) ?_
  refine q_of hm h7 hc hx ?_
  rw [hv x hx]
  refine hb_rt ?_
  have h1 := Int32.toInt_lt (v x)
  have h2 := Int32.le_toInt (v x)
  have h3 := Int32.toInt_lt k
  have h4 := Int32.le_toInt k
  have e : ((v x).toInt64 - k.toInt64).toInt = (v x).toInt - k.toInt := by
    rw [Jvm.Kit.i64_sub, Jvm.Kit.i64_of_i32, Jvm.Kit.i64_of_i32]
    · rw [Jvm.Kit.i64_of_i32, Jvm.Kit.i64_of_i32]; omega
    · rw [Jvm.Kit.i64_of_i32, Jvm.Kit.i64_of_i32]; omega
  refine hr_br (fun b => hr_rt ⟨rfl, ?_⟩) (fun b => hr_rt ⟨rfl, ?_⟩)
  · rw [lg_cmp_ge, Int64.le_iff_toInt_le, i64_z, e] at b
    rw [e]
    omega
  · rw [lg_cmp_ge, Int64.le_iff_toInt_le, i64_z, e] at b
    rw [Jvm.Kit.i64_neg (by rw [e]; omega), e]
    omega
end MASK
section MASK2
variable {am nc kn : Nat} {so : Nat → Int32} {wk : Nat → Nat} {vl : Nat → Nat → Int32} {ws : WS}
theorem m_about {x1 x2 : Int32} {P : Int32 → WS → Prop} (hm : MO ws.1 am nc kn) (hc : MC ws.1 am nc so wk vl) (hnc : nc ≤ 60) (h1 : ∀ c, c < nc → x1 = nI c → ∀ r : Int32, AB (vl c) (so c) (wk c) x2 r → P r ws) (h0 : (x1 < 0 ∨ nI nc ≤ x1) → P (-2000000) ws) : Hr (F_X11_about am x1 x2) ws P := by
  have hm0 := hm
  unfold MO at hm0
  obtain ⟨f5, f6, f7, g5, g6, g7, hg⟩ := hc
  unfold F_X11_about
  refine hb_dr hm0 (by decide) ?_
  refine qm_isCurve hm hnc (fun c hcn e => ?_) (fun hno => hr_t rfl (hr_rt (h0 hno)))
  obtain ⟨v1, v2, v3⟩ := hg c hcn
  have hP := h1 c hcn e
  subst e
  refine hr_f (by decide) ?_
  refine hb_rt ?_
  have hcc : (nI c).toNatClampNeg = c := nI_clamp (by omega)
  refine hr_br (fun b0 => ?_) (fun b0 => ?_)
  · (repeat (first | (with_reducible refine hb_rt ?_) | ((with_reducible apply hb_gRs); (focus (first | assumption | exact up_eq rfl | exact up_ne (by omega) (by assumption) | exact up_ne (by omega) (up_eq rfl) | exact up_ne (by omega) (up_ne (by omega) (by assumption)) | exact up_ne (by omega) (up_ne (by omega) (up_eq rfl)) | exact up_ne (by omega) (up_ne (by omega) (up_ne (by omega) (by assumption))) | exact up_ne (by omega) (up_ne (by omega) (up_ne (by omega) (up_eq rfl))) | exact up_ne (by omega) (up_ne (by omega) (up_ne (by omega) (up_ne (by omega) (by assumption)))) | exact up_ne (by omega) (up_ne (by omega) (up_ne (by omega) (up_ne (by omega) (up_eq rfl)))))); (focus decide); (focus rfl)) | ((with_reducible apply hb_gI); (focus (first | assumption | exact up_eq rfl | exact up_ne (by omega) (by assumption) | exact up_ne (by omega) (up_eq rfl) | exact up_ne (by omega) (up_ne (by omega) (by assumption)) | exact up_ne (by omega) (up_ne (by omega) (up_eq rfl)) | exact up_ne (by omega) (up_ne (by omega) (up_ne (by omega) (by assumption))) | exact up_ne (by omega) (up_ne (by omega) (up_ne (by omega) (up_eq rfl))) | exact up_ne (by omega) (up_ne (by omega) (up_ne (by omega) (up_ne (by omega) (by assumption)))) | exact up_ne (by omega) (up_ne (by omega) (up_ne (by omega) (up_ne (by omega) (up_eq rfl)))))); (focus decide); (focus rfl)) | ((with_reducible apply hb_gRn); (focus (first | assumption | exact up_eq rfl | exact up_ne (by omega) (by assumption) | exact up_ne (by omega) (up_eq rfl) | exact up_ne (by omega) (up_ne (by omega) (by assumption)) | exact up_ne (by omega) (up_ne (by omega) (up_eq rfl)) | exact up_ne (by omega) (up_ne (by omega) (up_ne (by omega) (by assumption))) | exact up_ne (by omega) (up_ne (by omega) (up_ne (by omega) (up_eq rfl))) | exact up_ne (by omega) (up_ne (by omega) (up_ne (by omega) (up_ne (by omega) (by assumption)))) | exact up_ne (by omega) (up_ne (by omega) (up_ne (by omega) (up_ne (by omega) (up_eq rfl)))))); (focus decide); (focus rfl)) | ((with_reducible apply hb_gL); (focus (first | assumption | exact up_eq rfl | exact up_ne (by omega) (by assumption) | exact up_ne (by omega) (up_eq rfl) | exact up_ne (by omega) (up_ne (by omega) (by assumption)) | exact up_ne (by omega) (up_ne (by omega) (up_eq rfl)) | exact up_ne (by omega) (up_ne (by omega) (up_ne (by omega) (by assumption))) | exact up_ne (by omega) (up_ne (by omega) (up_ne (by omega) (up_eq rfl))) | exact up_ne (by omega) (up_ne (by omega) (up_ne (by omega) (up_ne (by omega) (by assumption)))) | exact up_ne (by omega) (up_ne (by omega) (up_ne (by omega) (up_ne (by omega) (up_eq rfl)))))); (focus decide); (focus rfl)) | ((with_reducible apply hb_gD); (focus (first | assumption | exact up_eq rfl | exact up_ne (by omega) (by assumption) | exact up_ne (by omega) (up_eq rfl) | exact up_ne (by omega) (up_ne (by omega) (by assumption)) | exact up_ne (by omega) (up_ne (by omega) (up_eq rfl)) | exact up_ne (by omega) (up_ne (by omega) (up_ne (by omega) (by assumption))) | exact up_ne (by omega) (up_ne (by omega) (up_ne (by omega) (up_eq rfl))) | exact up_ne (by omega) (up_ne (by omega) (up_ne (by omega) (up_ne (by omega) (by assumption)))) | exact up_ne (by omega) (up_ne (by omega) (up_ne (by omega) (up_ne (by omega) (up_eq rfl)))))); (focus decide); (focus rfl)) | ((with_reducible apply hb_gR); (focus (first | assumption | exact up_eq rfl | exact up_ne (by omega) (by assumption) | exact up_ne (by omega) (up_eq rfl) | exact up_ne (by omega) (up_ne (by omega) (by assumption)) | exact up_ne (by omega) (up_ne (by omega) (up_eq rfl)) | exact up_ne (by omega) (up_ne (by omega) (up_ne (by omega) (by assumption))) | exact up_ne (by omega) (up_ne (by omega) (up_ne (by omega) (up_eq rfl))) | exact up_ne (by omega) (up_ne (by omega) (up_ne (by omega) (up_ne (by omega) (by assumption)))) | exact up_ne (by omega) (up_ne (by omega) (up_ne (by omega) (up_ne (by omega) (up_eq rfl)))))); (focus decide); (focus rfl)) | ((with_reducible apply hb_dr); (focus (first | assumption | exact up_eq rfl | exact up_ne (by omega) (by assumption) | exact up_ne (by omega) (up_eq rfl) | exact up_ne (by omega) (up_ne (by omega) (by assumption)) | exact up_ne (by omega) (up_ne (by omega) (up_eq rfl)) | exact up_ne (by omega) (up_ne (by omega) (up_ne (by omega) (by assumption))) | exact up_ne (by omega) (up_ne (by omega) (up_ne (by omega) (up_eq rfl))) | exact up_ne (by omega) (up_ne (by omega) (up_ne (by omega) (up_ne (by omega) (by assumption)))) | exact up_ne (by omega) (up_ne (by omega) (up_ne (by omega) (up_ne (by omega) (up_eq rfl)))))); (focus decide)) | ((with_reducible apply hb_aI); (focus (first | assumption | exact up_eq rfl | exact up_ne (by omega) (by assumption) | exact up_ne (by omega) (up_eq rfl) | exact up_ne (by omega) (up_ne (by omega) (by assumption)) | exact up_ne (by omega) (up_ne (by omega) (up_eq rfl)) | exact up_ne (by omega) (up_ne (by omega) (up_ne (by omega) (by assumption))) | exact up_ne (by omega) (up_ne (by omega) (up_ne (by omega) (up_eq rfl))) | exact up_ne (by omega) (up_ne (by omega) (up_ne (by omega) (up_ne (by omega) (by assumption)))) | exact up_ne (by omega) (up_ne (by omega) (up_ne (by omega) (up_ne (by omega) (up_eq rfl)))))); (focus (first | assumption | exact nI_in (by omega) (by decide) | decide))) | ((with_reducible apply hb_sI); (focus (first | assumption | exact up_eq rfl | exact up_ne (by omega) (by assumption) | exact up_ne (by omega) (up_eq rfl) | exact up_ne (by omega) (up_ne (by omega) (by assumption)) | exact up_ne (by omega) (up_ne (by omega) (up_eq rfl)) | exact up_ne (by omega) (up_ne (by omega) (up_ne (by omega) (by assumption))) | exact up_ne (by omega) (up_ne (by omega) (up_ne (by omega) (up_eq rfl))) | exact up_ne (by omega) (up_ne (by omega) (up_ne (by omega) (up_ne (by omega) (by assumption)))) | exact up_ne (by omega) (up_ne (by omega) (up_ne (by omega) (up_ne (by omega) (up_eq rfl)))))); (focus (first | assumption | exact nI_in (by omega) (by decide) | decide))) | ((with_reducible apply hb_aR); (focus (first | assumption | exact up_eq rfl | exact up_ne (by omega) (by assumption) | exact up_ne (by omega) (up_eq rfl) | exact up_ne (by omega) (up_ne (by omega) (by assumption)) | exact up_ne (by omega) (up_ne (by omega) (up_eq rfl)) | exact up_ne (by omega) (up_ne (by omega) (up_ne (by omega) (by assumption))) | exact up_ne (by omega) (up_ne (by omega) (up_ne (by omega) (up_eq rfl))) | exact up_ne (by omega) (up_ne (by omega) (up_ne (by omega) (up_ne (by omega) (by assumption)))) | exact up_ne (by omega) (up_ne (by omega) (up_ne (by omega) (up_ne (by omega) (up_eq rfl)))))); (focus (first | assumption | exact nI_in (by omega) (by decide) | decide))) | ((with_reducible apply hb_sR); (focus (first | assumption | exact up_eq rfl | exact up_ne (by omega) (by assumption) | exact up_ne (by omega) (up_eq rfl) | exact up_ne (by omega) (up_ne (by omega) (by assumption)) | exact up_ne (by omega) (up_ne (by omega) (up_eq rfl)) | exact up_ne (by omega) (up_ne (by omega) (up_ne (by omega) (by assumption))) | exact up_ne (by omega) (up_ne (by omega) (up_ne (by omega) (up_eq rfl))) | exact up_ne (by omega) (up_ne (by omega) (up_ne (by omega) (up_ne (by omega) (by assumption)))) | exact up_ne (by omega) (up_ne (by omega) (up_ne (by omega) (up_ne (by omega) (up_eq rfl)))))); (focus (first | assumption | exact nI_in (by omega) (by decide) | decide))) | ((with_reducible apply hb_aL); (focus (first | assumption | exact up_eq rfl | exact up_ne (by omega) (by assumption) | exact up_ne (by omega) (up_eq rfl) | exact up_ne (by omega) (up_ne (by omega) (by assumption)) | exact up_ne (by omega) (up_ne (by omega) (up_eq rfl)) | exact up_ne (by omega) (up_ne (by omega) (up_ne (by omega) (by assumption))) | exact up_ne (by omega) (up_ne (by omega) (up_ne (by omega) (up_eq rfl))) | exact up_ne (by omega) (up_ne (by omega) (up_ne (by omega) (up_ne (by omega) (by assumption)))) | exact up_ne (by omega) (up_ne (by omega) (up_ne (by omega) (up_ne (by omega) (up_eq rfl)))))); (focus (first | assumption | exact nI_in (by omega) (by decide) | decide))) | ((with_reducible apply hb_sL); (focus (first | assumption | exact up_eq rfl | exact up_ne (by omega) (by assumption) | exact up_ne (by omega) (up_eq rfl) | exact up_ne (by omega) (up_ne (by omega) (by assumption)) | exact up_ne (by omega) (up_ne (by omega) (up_eq rfl)) | exact up_ne (by omega) (up_ne (by omega) (up_ne (by omega) (by assumption))) | exact up_ne (by omega) (up_ne (by omega) (up_ne (by omega) (up_eq rfl))) | exact up_ne (by omega) (up_ne (by omega) (up_ne (by omega) (up_ne (by omega) (by assumption)))) | exact up_ne (by omega) (up_ne (by omega) (up_ne (by omega) (up_ne (by omega) (up_eq rfl)))))); (focus (first | assumption | exact nI_in (by omega) (by decide) | decide))) | ((with_reducible apply hb_aF); (focus (first | assumption | exact up_eq rfl | exact up_ne (by omega) (by assumption) | exact up_ne (by omega) (up_eq rfl) | exact up_ne (by omega) (up_ne (by omega) (by assumption)) | exact up_ne (by omega) (up_ne (by omega) (up_eq rfl)) | exact up_ne (by omega) (up_ne (by omega) (up_ne (by omega) (by assumption))) | exact up_ne (by omega) (up_ne (by omega) (up_ne (by omega) (up_eq rfl))) | exact up_ne (by omega) (up_ne (by omega) (up_ne (by omega) (up_ne (by omega) (by assumption)))) | exact up_ne (by omega) (up_ne (by omega) (up_ne (by omega) (up_ne (by omega) (up_eq rfl)))))); (focus (first | assumption | exact nI_in (by omega) (by decide) | decide))) | ((with_reducible apply hb_sF); (focus (first | assumption | exact up_eq rfl | exact up_ne (by omega) (by assumption) | exact up_ne (by omega) (up_eq rfl) | exact up_ne (by omega) (up_ne (by omega) (by assumption)) | exact up_ne (by omega) (up_ne (by omega) (up_eq rfl)) | exact up_ne (by omega) (up_ne (by omega) (up_ne (by omega) (by assumption))) | exact up_ne (by omega) (up_ne (by omega) (up_ne (by omega) (up_eq rfl))) | exact up_ne (by omega) (up_ne (by omega) (up_ne (by omega) (up_ne (by omega) (by assumption)))) | exact up_ne (by omega) (up_ne (by omega) (up_ne (by omega) (up_ne (by omega) (up_eq rfl)))))); (focus (first | assumption | exact nI_in (by omega) (by decide) | decide))) | ((with_reducible apply hb_aD); (focus (first | assumption | exact up_eq rfl | exact up_ne (by omega) (by assumption) | exact up_ne (by omega) (up_eq rfl) | exact up_ne (by omega) (up_ne (by omega) (by assumption)) | exact up_ne (by omega) (up_ne (by omega) (up_eq rfl)) | exact up_ne (by omega) (up_ne (by omega) (up_ne (by omega) (by assumption))) | exact up_ne (by omega) (up_ne (by omega) (up_ne (by omega) (up_eq rfl))) | exact up_ne (by omega) (up_ne (by omega) (up_ne (by omega) (up_ne (by omega) (by assumption)))) | exact up_ne (by omega) (up_ne (by omega) (up_ne (by omega) (up_ne (by omega) (up_eq rfl)))))); (focus (first | assumption | exact nI_in (by omega) (by decide) | decide))) | ((with_reducible apply hb_sD); (focus (first | assumption | exact up_eq rfl | exact up_ne (by omega) (by assumption) | exact up_ne (by omega) (up_eq rfl) | exact up_ne (by omega) (up_ne (by omega) (by assumption)) | exact up_ne (by omega) (up_ne (by omega) (up_eq rfl)) | exact up_ne (by omega) (up_ne (by omega) (up_ne (by omega) (by assumption))) | exact up_ne (by omega) (up_ne (by omega) (up_ne (by omega) (up_eq rfl))) | exact up_ne (by omega) (up_ne (by omega) (up_ne (by omega) (up_ne (by omega) (by assumption)))) | exact up_ne (by omega) (up_ne (by omega) (up_ne (by omega) (up_ne (by omega) (up_eq rfl)))))); (focus (first | assumption | exact nI_in (by omega) (by decide) | decide))) | ((with_reducible apply hb_pV); (focus (first | assumption | exact up_eq rfl | exact up_ne (by omega) (by assumption) | exact up_ne (by omega) (up_eq rfl) | exact up_ne (by omega) (up_ne (by omega) (by assumption)) | exact up_ne (by omega) (up_ne (by omega) (up_eq rfl)) | exact up_ne (by omega) (up_ne (by omega) (up_ne (by omega) (by assumption))) | exact up_ne (by omega) (up_ne (by omega) (up_ne (by omega) (up_eq rfl))) | exact up_ne (by omega) (up_ne (by omega) (up_ne (by omega) (up_ne (by omega) (by assumption)))) | exact up_ne (by omega) (up_ne (by omega) (up_ne (by omega) (up_ne (by omega) (up_eq rfl)))))); (focus decide); (focus simp))))
    rw [hcc, v1]
    exact hr_rt (hP _ (Or.inl ⟨b0, rfl⟩))
  refine hr_br (fun b1 => ?_) (fun b1 => ?_)
  · (repeat (first | (with_reducible refine hb_rt ?_) | ((with_reducible apply hb_gRs); (focus (first | assumption | exact up_eq rfl | exact up_ne (by omega) (by assumption) | exact up_ne (by omega) (up_eq rfl) | exact up_ne (by omega) (up_ne (by omega) (by assumption)) | exact up_ne (by omega) (up_ne (by omega) (up_eq rfl)) | exact up_ne (by omega) (up_ne (by omega) (up_ne (by omega) (by assumption))) | exact up_ne (by omega) (up_ne (by omega) (up_ne (by omega) (up_eq rfl))) | exact up_ne (by omega) (up_ne (by omega) (up_ne (by omega) (up_ne (by omega) (by assumption)))) | exact up_ne (by omega) (up_ne (by omega) (up_ne (by omega) (up_ne (by omega) (up_eq rfl)))))); (focus decide); (focus rfl)) | ((with_reducible apply hb_gI); (focus (first | assumption | exact up_eq rfl | exact up_ne (by omega) (by assumption) | exact up_ne (by omega) (up_eq rfl) | exact up_ne (by omega) (up_ne (by omega) (by assumption)) | exact up_ne (by omega) (up_ne (by omega) (up_eq rfl)) | exact up_ne (by omega) (up_ne (by omega) (up_ne (by omega) (by assumption))) | exact up_ne (by omega) (up_ne (by omega) (up_ne (by omega) (up_eq rfl))) | exact up_ne (by omega) (up_ne (by omega) (up_ne (by omega) (up_ne (by omega) (by assumption)))) | exact up_ne (by omega) (up_ne (by omega) (up_ne (by omega) (up_ne (by omega) (up_eq rfl)))))); (focus decide); (focus rfl)) | ((with_reducible apply hb_gRn); (focus (first | assumption | exact up_eq rfl | exact up_ne (by omega) (by assumption) | exact up_ne (by omega) (up_eq rfl) | exact up_ne (by omega) (up_ne (by omega) (by assumption)) | exact up_ne (by omega) (up_ne (by omega) (up_eq rfl)) | exact up_ne (by omega) (up_ne (by omega) (up_ne (by omega) (by assumption))) | exact up_ne (by omega) (up_ne (by omega) (up_ne (by omega) (up_eq rfl))) | exact up_ne (by omega) (up_ne (by omega) (up_ne (by omega) (up_ne (by omega) (by assumption)))) | exact up_ne (by omega) (up_ne (by omega) (up_ne (by omega) (up_ne (by omega) (up_eq rfl)))))); (focus decide); (focus rfl)) | ((with_reducible apply hb_gL); (focus (first | assumption | exact up_eq rfl | exact up_ne (by omega) (by assumption) | exact up_ne (by omega) (up_eq rfl) | exact up_ne (by omega) (up_ne (by omega) (by assumption)) | exact up_ne (by omega) (up_ne (by omega) (up_eq rfl)) | exact up_ne (by omega) (up_ne (by omega) (up_ne (by omega) (by assumption))) | exact up_ne (by omega) (up_ne (by omega) (up_ne (by omega) (up_eq rfl))) | exact up_ne (by omega) (up_ne (by omega) (up_ne (by omega) (up_ne (by omega) (by assumption)))) | exact up_ne (by omega) (up_ne (by omega) (up_ne (by omega) (up_ne (by omega) (up_eq rfl)))))); (focus decide); (focus rfl)) | ((with_reducible apply hb_gD); (focus (first | assumption | exact up_eq rfl | exact up_ne (by omega) (by assumption) | exact up_ne (by omega) (up_eq rfl) | exact up_ne (by omega) (up_ne (by omega) (by assumption)) | exact up_ne (by omega) (up_ne (by omega) (up_eq rfl)) | exact up_ne (by omega) (up_ne (by omega) (up_ne (by omega) (by assumption))) | exact up_ne (by omega) (up_ne (by omega) (up_ne (by omega) (up_eq rfl))) | exact up_ne (by omega) (up_ne (by omega) (up_ne (by omega) (up_ne (by omega) (by assumption)))) | exact up_ne (by omega) (up_ne (by omega) (up_ne (by omega) (up_ne (by omega) (up_eq rfl)))))); (focus decide); (focus rfl)) | ((with_reducible apply hb_gR); (focus (first | assumption | exact up_eq rfl | exact up_ne (by omega) (by assumption) | exact up_ne (by omega) (up_eq rfl) | exact up_ne (by omega) (up_ne (by omega) (by assumption)) | exact up_ne (by omega) (up_ne (by omega) (up_eq rfl)) | exact up_ne (by omega) (up_ne (by omega) (up_ne (by omega) (by assumption))) | exact up_ne (by omega) (up_ne (by omega) (up_ne (by omega) (up_eq rfl))) | exact up_ne (by omega) (up_ne (by omega) (up_ne (by omega) (up_ne (by omega) (by assumption)))) | exact up_ne (by omega) (up_ne (by omega) (up_ne (by omega) (up_ne (by omega) (up_eq rfl)))))); (focus decide); (focus rfl)) | ((with_reducible apply hb_dr); (focus (first | assumption | exact up_eq rfl | exact up_ne (by omega) (by assumption) | exact up_ne (by omega) (up_eq rfl) | exact up_ne (by omega) (up_ne (by omega) (by assumption)) | exact up_ne (by omega) (up_ne (by omega) (up_eq rfl)) | exact up_ne (by omega) (up_ne (by omega) (up_ne (by omega) (by assumption))) | exact up_ne (by omega) (up_ne (by omega) (up_ne (by omega) (up_eq rfl))) | exact up_ne (by omega) (up_ne (by omega) (up_ne (by omega) (up_ne (by omega) (by assumption)))) | exact up_ne (by omega) (up_ne (by omega) (up_ne (by omega) (up_ne (by omega) (up_eq rfl)))))); (focus decide)) | ((with_reducible apply hb_aI); (focus (first | assumption | exact up_eq rfl | exact up_ne (by omega) (by assumption) | exact up_ne (by omega) (up_eq rfl) | exact up_ne (by omega) (up_ne (by omega) (by assumption)) | exact up_ne (by omega) (up_ne (by omega) (up_eq rfl)) | exact up_ne (by omega) (up_ne (by omega) (up_ne (by omega) (by assumption))) | exact up_ne (by omega) (up_ne (by omega) (up_ne (by omega) (up_eq rfl))) | exact up_ne (by omega) (up_ne (by omega) (up_ne (by omega) (up_ne (by omega) (by assumption)))) | exact up_ne (by omega) (up_ne (by omega) (up_ne (by omega) (up_ne (by omega) (up_eq rfl)))))); (focus (first | assumption | exact nI_in (by omega) (by decide) | decide))) | ((with_reducible apply hb_sI); (focus (first | assumption | exact up_eq rfl | exact up_ne (by omega) (by assumption) | exact up_ne (by omega) (up_eq rfl) | exact up_ne (by omega) (up_ne (by omega) (by assumption)) | exact up_ne (by omega) (up_ne (by omega) (up_eq rfl)) | exact up_ne (by omega) (up_ne (by omega) (up_ne (by omega) (by assumption))) | exact up_ne (by omega) (up_ne (by omega) (up_ne (by omega) (up_eq rfl))) | exact up_ne (by omega) (up_ne (by omega) (up_ne (by omega) (up_ne (by omega) (by assumption)))) | exact up_ne (by omega) (up_ne (by omega) (up_ne (by omega) (up_ne (by omega) (up_eq rfl)))))); (focus (first | assumption | exact nI_in (by omega) (by decide) | decide))) | ((with_reducible apply hb_aR); (focus (first | assumption | exact up_eq rfl | exact up_ne (by omega) (by assumption) | exact up_ne (by omega) (up_eq rfl) | exact up_ne (by omega) (up_ne (by omega) (by assumption)) | exact up_ne (by omega) (up_ne (by omega) (up_eq rfl)) | exact up_ne (by omega) (up_ne (by omega) (up_ne (by omega) (by assumption))) | exact up_ne (by omega) (up_ne (by omega) (up_ne (by omega) (up_eq rfl))) | exact up_ne (by omega) (up_ne (by omega) (up_ne (by omega) (up_ne (by omega) (by assumption)))) | exact up_ne (by omega) (up_ne (by omega) (up_ne (by omega) (up_ne (by omega) (up_eq rfl)))))); (focus (first | assumption | exact nI_in (by omega) (by decide) | decide))) | ((with_reducible apply hb_sR); (focus (first | assumption | exact up_eq rfl | exact up_ne (by omega) (by assumption) | exact up_ne (by omega) (up_eq rfl) | exact up_ne (by omega) (up_ne (by omega) (by assumption)) | exact up_ne (by omega) (up_ne (by omega) (up_eq rfl)) | exact up_ne (by omega) (up_ne (by omega) (up_ne (by omega) (by assumption))) | exact up_ne (by omega) (up_ne (by omega) (up_ne (by omega) (up_eq rfl))) | exact up_ne (by omega) (up_ne (by omega) (up_ne (by omega) (up_ne (by omega) (by assumption)))) | exact up_ne (by omega) (up_ne (by omega) (up_ne (by omega) (up_ne (by omega) (up_eq rfl)))))); (focus (first | assumption | exact nI_in (by omega) (by decide) | decide))) | ((with_reducible apply hb_aL); (focus (first | assumption | exact up_eq rfl | exact up_ne (by omega) (by assumption) | exact up_ne (by omega) (up_eq rfl) | exact up_ne (by omega) (up_ne (by omega) (by assumption)) | exact up_ne (by omega) (up_ne (by omega) (up_eq rfl)) | exact up_ne (by omega) (up_ne (by omega) (up_ne (by omega) (by assumption))) | exact up_ne (by omega) (up_ne (by omega) (up_ne (by omega) (up_eq rfl))) | exact up_ne (by omega) (up_ne (by omega) (up_ne (by omega) (up_ne (by omega) (by assumption)))) | exact up_ne (by omega) (up_ne (by omega) (up_ne (by omega) (up_ne (by omega) (up_eq rfl)))))); (focus (first | assumption | exact nI_in (by omega) (by decide) | decide))) | ((with_reducible apply hb_sL); (focus (first | assumption | exact up_eq rfl | exact up_ne (by omega) (by assumption) | exact up_ne (by omega) (up_eq rfl) | exact up_ne (by omega) (up_ne (by omega) (by assumption)) | exact up_ne (by omega) (up_ne (by omega) (up_eq rfl)) | exact up_ne (by omega) (up_ne (by omega) (up_ne (by omega) (by assumption))) | exact up_ne (by omega) (up_ne (by omega) (up_ne (by omega) (up_eq rfl))) | exact up_ne (by omega) (up_ne (by omega) (up_ne (by omega) (up_ne (by omega) (by assumption)))) | exact up_ne (by omega) (up_ne (by omega) (up_ne (by omega) (up_ne (by omega) (up_eq rfl)))))); (focus (first | assumption | exact nI_in (by omega) (by decide) | decide))) | ((with_reducible apply hb_aF); (focus (first | assumption | exact up_eq rfl | exact up_ne (by omega) (by assumption) | exact up_ne (by omega) (up_eq rfl) | exact up_ne (by omega) (up_ne (by omega) (by assumption)) | exact up_ne (by omega) (up_ne (by omega) (up_eq rfl)) | exact up_ne (by omega) (up_ne (by omega) (up_ne (by omega) (by assumption))) | exact up_ne (by omega) (up_ne (by omega) (up_ne (by omega) (up_eq rfl))) | exact up_ne (by omega) (up_ne (by omega) (up_ne (by omega) (up_ne (by omega) (by assumption)))) | exact up_ne (by omega) (up_ne (by omega) (up_ne (by omega) (up_ne (by omega) (up_eq rfl)))))); (focus (first | assumption | exact nI_in (by omega) (by decide) | decide))) | ((with_reducible apply hb_sF); (focus (first | assumption | exact up_eq rfl | exact up_ne (by omega) (by assumption) | exact up_ne (by omega) (up_eq rfl) | exact up_ne (by omega) (up_ne (by omega) (by assumption)) | exact up_ne (by omega) (up_ne (by omega) (up_eq rfl)) | exact up_ne (by omega) (up_ne (by omega) (up_ne (by omega) (by assumption))) | exact up_ne (by omega) (up_ne (by omega) (up_ne (by omega) (up_eq rfl))) | exact up_ne (by omega) (up_ne (by omega) (up_ne (by omega) (up_ne (by omega) (by assumption)))) | exact up_ne (by omega) (up_ne (by omega) (up_ne (by omega) (up_ne (by omega) (up_eq rfl)))))); (focus (first | assumption | exact nI_in (by omega) (by decide) | decide))) | ((with_reducible apply hb_aD); (focus (first | assumption | exact up_eq rfl | exact up_ne (by omega) (by assumption) | exact up_ne (by omega) (up_eq rfl) | exact up_ne (by omega) (up_ne (by omega) (by assumption)) | exact up_ne (by omega) (up_ne (by omega) (up_eq rfl)) | exact up_ne (by omega) (up_ne (by omega) (up_ne (by omega) (by assumption))) | exact up_ne (by omega) (up_ne (by omega) (up_ne (by omega) (up_eq rfl))) | exact up_ne (by omega) (up_ne (by omega) (up_ne (by omega) (up_ne (by omega) (by assumption)))) | exact up_ne (by omega) (up_ne (by omega) (up_ne (by omega) (up_ne (by omega) (up_eq rfl)))))); (focus (first | assumption | exact nI_in (by omega) (by decide) | decide))) | ((with_reducible apply hb_sD); (focus (first | assumption | exact up_eq rfl | exact up_ne (by omega) (by assumption) | exact up_ne (by omega) (up_eq rfl) | exact up_ne (by omega) (up_ne (by omega) (by assumption)) | exact up_ne (by omega) (up_ne (by omega) (up_eq rfl)) | exact up_ne (by omega) (up_ne (by omega) (up_ne (by omega) (by assumption))) | exact up_ne (by omega) (up_ne (by omega) (up_ne (by omega) (up_eq rfl))) | exact up_ne (by omega) (up_ne (by omega) (up_ne (by omega) (up_ne (by omega) (by assumption)))) | exact up_ne (by omega) (up_ne (by omega) (up_ne (by omega) (up_ne (by omega) (up_eq rfl)))))); (focus (first | assumption | exact nI_in (by omega) (by decide) | decide))) | ((with_reducible apply hb_pV); (focus (first | assumption | exact up_eq rfl | exact up_ne (by omega) (by assumption) | exact up_ne (by omega) (up_eq rfl) | exact up_ne (by omega) (up_ne (by omega) (by assumption)) | exact up_ne (by omega) (up_ne (by omega) (up_eq rfl)) | exact up_ne (by omega) (up_ne (by omega) (up_ne (by omega) (by assumption))) | exact up_ne (by omega) (up_ne (by omega) (up_ne (by omega) (up_eq rfl))) | exact up_ne (by omega) (up_ne (by omega) (up_ne (by omega) (up_ne (by omega) (by assumption)))) | exact up_ne (by omega) (up_ne (by omega) (up_ne (by omega) (up_ne (by omega) (up_eq rfl)))))); (focus decide); (focus simp))))
    rw [hcc, v2]
    exact hr_rt (hP _ (Or.inr (Or.inl ⟨b1, rfl⟩)))
  refine hr_br (fun b2 => ?_) (fun b2 => ?_)
  · refine hb_dr hm0 (by decide) ?_
    refine hb_c (m_way hm g7 (by omega) v3) (fun r t h => ?_)
    obtain ⟨rfl, h⟩ := h
    exact hr_rt (hP _ (Or.inr (Or.inr (Or.inl ⟨b2, h⟩))))
  refine hr_br (fun b3 => ?_) (fun b3 => ?_)
  · refine hb_dr hm0 (by decide) ?_
    refine hb_c (m_turning hm g7 (by omega) v3) (fun r t h => ?_)
    obtain ⟨rfl, -, h⟩ := h
    rw [h (by decide), Int32.sub_add_cancel]
    exact hr_rt (hP _ (Or.inr (Or.inr (Or.inr (Or.inl ⟨b3, rfl⟩)))))
  refine hr_br (fun b4 => ?_) (fun b4 => ?_)
  · refine hb_dr hm0 (by decide) ?_
    refine hb_c (m_endLo hm g7 (by omega) v3) (fun r t h => ?_)
    obtain ⟨rfl, h⟩ := h
    exact hr_rt (hP _ (Or.inr (Or.inr (Or.inr (Or.inr (Or.inl ⟨b4, h⟩))))))
  refine hr_br (fun b5 => ?_) (fun b5 => ?_)
  · refine hb_dr hm0 (by decide) ?_
    refine hb_c (m_endHi hm g7 (by omega) v3) (fun r t h => ?_)
    obtain ⟨rfl, h⟩ := h
    exact hr_rt (hP _ (Or.inr (Or.inr (Or.inr (Or.inr (Or.inr (Or.inl ⟨b5, h⟩)))))))
  · exact hr_rt (hP _ (Or.inr (Or.inr (Or.inr (Or.inr (Or.inr (Or.inr ⟨⟨b0, b1, b2, b3, b4, b5⟩, rfl⟩)))))))
theorem m_turn {x1 x2 : Int32} {P : Int32 → WS → Prop} (hm : MO ws.1 am nc kn) (hc : MC ws.1 am nc so wk vl) (hnc : nc ≤ 60) (h1 : ∀ c, c < nc → x1 = nI c → ∀ r : Int32, TR (vl c) x2 r → P r ws) (h0 : (x1 < 0 ∨ nI nc ≤ x1) → P (-2) ws) : Hr (F_X11_turn am x1 x2) ws P := by
  have hm0 := hm
  unfold MO at hm0
  obtain ⟨f5, f6, f7, g5, g6, g7, hg⟩ := hc
  unfold F_X11_turn
  refine hb_dr hm0 (by decide) ?_
  refine qm_isCurve hm hnc (fun c hcn e => ?_) (fun hno => hr_t rfl (hr_rt (h0 hno)))
  obtain ⟨v1, v2, v3⟩ := hg c hcn
  have hP := h1 c hcn e
  subst e
  refine hr_f (by decide) ?_
  refine hr_br (fun b => ?_) (fun b => ?_)
  · refine hb_dr hm0 (by decide) ?_
    refine hb_c (m_turning hm g7 (by omega) v3) (fun r t h => ?_)
    obtain ⟨rfl, h, -⟩ := h
    exact hr_rt (hP _ (h (Int32.not_lt.mpr b)))
  · exact hr_rt (hP _ (Or.inl ⟨Or.inl (Int32.not_le.mp b), rfl⟩))
theorem m_inverse {x1 x2 : Int32} {P : Int32 → WS → Prop} (hm : MO ws.1 am nc kn) (hc : MC ws.1 am nc so wk vl) (hnc : nc ≤ 60) (h1 : ∀ c, c < nc → x1 = nI c → ∀ r : Int32, NR (vl c) x2 r → P r ws) (h0 : (x1 < 0 ∨ nI nc ≤ x1) → P (-2) ws) : Hr (F_X11_inverse am x1 x2) ws P := by
  have hm0 := hm
  unfold MO at hm0
  obtain ⟨f5, f6, f7, g5, g6, g7, hg⟩ := hc
  unfold F_X11_inverse
  refine hb_dr hm0 (by decide) ?_
  refine qm_isCurve hm hnc (fun c hcn e => ?_) (fun hno => hr_t rfl (hr_rt (h0 hno)))
  obtain ⟨v1, v2, v3⟩ := hg c hcn
  have hP := h1 c hcn e
  subst e
  have hc60 : c < 60 := by omega
  refine hr_f (by decide) ?_
  refine hb_dr hm0 (by decide) ?_
  refine hb_c (m_way hm g7 hc60 v3) (fun r t h => ?_)
  obtain ⟨rfl, h⟩ := h
  have hgo : ¬ (ups (vl c) 4096 ∧ downs (vl c) 4096) → Hr (l_X11_inverse_26 am (nI c) x2 (fun (e13 : Int32) => rt e13) FU (0 : Int32) (1 : Int32)) t P := by
    intro hn
    refine hr_loop (σ := Int32 × Int32) (fun n s => l_X11_inverse_26 am (nI c) x2 _ n s.1 s.2) (fun rec s => b_X11_inverse_26 am (nI c) x2 (fun a b => rec (a, b)) _ s.1 s.2) (fun n s => rfl) 4096 (fun x s w => w = t ∧ 1 ≤ x ∧ ∃ b, b < x ∧ s = (nI b, nI x) ∧ ∀ y, y < x → ((vl c b).toInt - x2.toInt).natAbs ≤ ((vl c y).toInt - x2.toInt).natAbs ∧ (y < b → ((vl c b).toInt - x2.toInt).natAbs < ((vl c y).toInt - x2.toInt).natAbs)) ?_ ?_ 4095 FU 1 (0, 1) _ (by decide) rfl ⟨rfl, Nat.le_refl _, 0, by decide, rfl, fun y hy => ?_⟩
    · intro x s w rec hx hI hrec
      obtain ⟨rfl, h1, b, hb, rfl, hd⟩ := hI
      dsimp only
      unfold b_X11_inverse_26
      refine hr_f (nI_ge (a := x) (b := 4096) hx (by decide)) ?_
      refine hb_dr hm0 (by decide) ?_
      refine hb_c (m_far hm g7 hc60 v3 hx) (fun r1 t h => ?_)
      obtain ⟨rfl, hr1⟩ := h
      refine hb_dr hm0 (by decide) ?_
      refine hb_c (m_far hm g7 hc60 v3 (show b < 4096 by omega)) (fun r2 t h => ?_)
      obtain ⟨rfl, hr2⟩ := h
      unfold j_X11_inverse_59
      rw [nI_1]
      refine hr_br (fun b1 => ?_) (fun b1 => ?_)
      · rw [lg_cmp_ge, Int64.le_iff_toInt_le, hr1, hr2] at b1
        refine hrec _ _ ⟨rfl, by omega, b, by omega, rfl, fun y hy => ?_⟩
        by_cases e : y = x
        · rw [e]
          omega
        · exact hd y (by omega)
      · rw [lg_cmp_ge, Int64.le_iff_toInt_le, hr1, hr2] at b1
        refine hrec _ _ ⟨rfl, by omega, x, by omega, rfl, fun y hy => ?_⟩
        by_cases e : y = x
        · rw [e]
          omega
        · have := hd y (by omega)
          omega
    · intro s w rec hI
      obtain ⟨rfl, h2, b, hb, rfl, hd⟩ := hI
      dsimp only
      unfold b_X11_inverse_26
      exact hr_t (by decide) (hr_rt (hP _ (Or.inr ⟨hn, b, rfl, hb, hd⟩)))
    · rw [show y = 0 by omega]
      omega
  rcases h with ⟨a, b, rfl⟩ | ⟨a, b, rfl⟩ | ⟨a, b, rfl⟩ | ⟨a, b, rfl⟩
  · exact hr_t rfl (hr_rt (hP _ (Or.inl ⟨a, b, rfl⟩)))
  · exact hr_f (by decide) (hgo (fun z => b z.2))
  · exact hr_f (by decide) (hgo (fun z => a z.1))
  · exact hr_f (by decide) (hgo (fun z => b z.2))
end MASK2
