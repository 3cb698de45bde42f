def F_X11_kept (x0 : Int32) (x1 : Int64) : St (Int64) :=
  bd (rt x0) fun w1 => br (w1 = (0)) (rt x1.toInt32.toInt8.toInt32.toInt64) (br (w1 = (1)) (rt (((x1.toInt32.toUInt32 % 65536).toInt32).toInt64)) (br (w1 = (2)) (rt x1.toInt32.toInt16.toInt32.toInt64) (br (w1 = (3)) (rt x1.toInt32.toInt64) (br (w1 = (4)) (rt x1) (br (w1 = (5)) (rt (FP.f2l (FP.l2f x1))) (br (w1 = (6)) (rt (FP.d2l (FP.l2d x1))) (rt (x1 &&& (1 : Int64)))))))))
set_option maxHeartbeats 4000000 in
set_option maxRecDepth 100000 in
theorem t_X11_kept (l : Launch) (D : va_G) (cy : Nat → ClassId) (z : Nat) (x0 : Int32) (x1 : Int64) : MT l D cy z yX11_kept cX11_kept 3 (some .long) 0 0 (F_X11_kept x0 x1) vL [.int x0, .long x1] := by
  refine m_enter [(0, .int x0), (1, .long x1)] (by decide) (by first | rfl | simp [lv_args, m_cat, m_ci, m_cl, m_cf, m_cd, m_cr]) (by first | exact Nat.le_of_ble_eq_true rfl | simp [lg_sl, m_cat, m_ci, m_cl, m_cf, m_cd, m_cr]) ?_
  intro p e R s m args below meth c ws0 wsf rr cx hE ws H locs cells slots ls hl hH hF
  obtain ⟨hx, hb, hr, hml, hown, hk, hz, hlocks, hnm, hfr, hlo⟩ := id cx
  unfold F_X11_kept at hF
  refine lv_iload_n hx hb dX11_kept_0 rfl (lv_at hl 0 rfl) ?_
  refine lv_topi (fun w1 hw1 => ?_)
  have hF := rt_t hw1 hF
  by_cases hkw1_0 : w1 = (0)
  · have hF := bq_t hkw1_0 hF
    refine lv_tableIn (off := 43) (tgt := 44) hx hb dX11_kept_1 (by rw [hkw1_0]; decide) (by rw [hkw1_0]; decide) (by rw [hkw1_0]; decide) (by decide) ?_
    refine lv_lload_n hx hb dX11_kept_44 rfl (lv_at hl 1 rfl) ?_
    refine lv_l2i hx hb dX11_kept_45 rfl ?_
    refine lv_i2b hx hb dX11_kept_46 rfl ?_
    refine lv_i2l hx hb dX11_kept_47 rfl ?_
    exact m_lret hx hb hr hlocks hH hE hF dX11_kept_48
  · have hF := bq_f hkw1_0 hF
    by_cases hkw1_1 : w1 = (1)
    · have hF := bq_t hkw1_1 hF
      refine lv_tableIn (off := 48) (tgt := 49) hx hb dX11_kept_1 (by rw [hkw1_1]; decide) (by rw [hkw1_1]; decide) (by rw [hkw1_1]; decide) (by decide) ?_
      refine lv_lload_n hx hb dX11_kept_49 rfl (lv_at hl 1 rfl) ?_
      refine lv_l2i hx hb dX11_kept_50 rfl ?_
      refine lv_i2c hx hb dX11_kept_51 rfl ?_
      refine lv_i2l hx hb dX11_kept_52 rfl ?_
      exact m_lret hx hb hr hlocks hH hE hF dX11_kept_53
    · have hF := bq_f hkw1_1 hF
      by_cases hkw1_2 : w1 = (2)
      · have hF := bq_t hkw1_2 hF
        refine lv_tableIn (off := 53) (tgt := 54) hx hb dX11_kept_1 (by rw [hkw1_2]; decide) (by rw [hkw1_2]; decide) (by rw [hkw1_2]; decide) (by decide) ?_
        refine lv_lload_n hx hb dX11_kept_54 rfl (lv_at hl 1 rfl) ?_
        refine lv_l2i hx hb dX11_kept_55 rfl ?_
        refine lv_i2s hx hb dX11_kept_56 rfl ?_
        refine lv_i2l hx hb dX11_kept_57 rfl ?_
        exact m_lret hx hb hr hlocks hH hE hF dX11_kept_58
      · have hF := bq_f hkw1_2 hF
        by_cases hkw1_3 : w1 = (3)
        · have hF := bq_t hkw1_3 hF
          refine lv_tableIn (off := 58) (tgt := 59) hx hb dX11_kept_1 (by rw [hkw1_3]; decide) (by rw [hkw1_3]; decide) (by rw [hkw1_3]; decide) (by decide) ?_
          refine lv_lload_n hx hb dX11_kept_59 rfl (lv_at hl 1 rfl) ?_
          refine lv_l2i hx hb dX11_kept_60 rfl ?_
          refine lv_i2l hx hb dX11_kept_61 rfl ?_
          exact m_lret hx hb hr hlocks hH hE hF dX11_kept_62
        · have hF := bq_f hkw1_3 hF
          by_cases hkw1_4 : w1 = (4)
          · have hF := bq_t hkw1_4 hF
            refine lv_tableIn (off := 62) (tgt := 63) hx hb dX11_kept_1 (by rw [hkw1_4]; decide) (by rw [hkw1_4]; decide) (by rw [hkw1_4]; decide) (by decide) ?_
            refine lv_lload_n hx hb dX11_kept_63 rfl (lv_at hl 1 rfl) ?_
            exact m_lret hx hb hr hlocks hH hE hF dX11_kept_64
          · have hF := bq_f hkw1_4 hF
            by_cases hkw1_5 : w1 = (5)
            · have hF := bq_t hkw1_5 hF
              refine lv_tableIn (off := 64) (tgt := 65) hx hb dX11_kept_1 (by rw [hkw1_5]; decide) (by rw [hkw1_5]; decide) (by rw [hkw1_5]; decide) (by decide) ?_
              refine lv_lload_n hx hb dX11_kept_65 rfl (lv_at hl 1 rfl) ?_
              refine lv_l2f hx hb dX11_kept_66 ?_
              refine lv_f2l hx hb dX11_kept_67 ?_
              exact m_lret hx hb hr hlocks hH hE hF dX11_kept_68
            · have hF := bq_f hkw1_5 hF
              by_cases hkw1_6 : w1 = (6)
              · have hF := bq_t hkw1_6 hF
                refine lv_tableIn (off := 68) (tgt := 69) hx hb dX11_kept_1 (by rw [hkw1_6]; decide) (by rw [hkw1_6]; decide) (by rw [hkw1_6]; decide) (by decide) ?_
                refine lv_lload_n hx hb dX11_kept_69 rfl (lv_at hl 1 rfl) ?_
                refine lv_l2d hx hb dX11_kept_70 ?_
                refine lv_d2l hx hb dX11_kept_71 ?_
                exact m_lret hx hb hr hlocks hH hE hF dX11_kept_72
              · have hF := bq_f hkw1_6 hF
                refine lv_tableOut (tgt := 73) hx hb dX11_kept_1 (by have g0 := lv_neT hkw1_0 (a := 0) (by decide); have g1 := lv_neT hkw1_1 (a := 1) (by decide); have g2 := lv_neT hkw1_2 (a := 2) (by decide); have g3 := lv_neT hkw1_3 (a := 3) (by decide); have g4 := lv_neT hkw1_4 (a := 4) (by decide); have g5 := lv_neT hkw1_5 (a := 5) (by decide); have g6 := lv_neT hkw1_6 (a := 6) (by decide); omega) (by decide) ?_
                refine lv_lload_n hx hb dX11_kept_73 rfl (lv_at hl 1 rfl) ?_
                refine lv_lconst (v := (1)) hx hb dX11_kept_74 (by decide) ?_
                refine lv_land hx hb dX11_kept_75 ?_
                exact m_lret hx hb hr hlocks hH hE hF dX11_kept_76

def F_X11_hold (o : Nat) (x1 : Int32) (x2 : Int32) (x3 : Int64) : St (Int64) :=
  bd (F_X11_isBank x1) fun c1 => br (c1 = 0) (rt (-2 : Int64)) (bd (gR [10] 20 (some o)) fun v3 => bd (aI 0 v3 x1) fun v4 => br (0 ≤ v4) (br (x2 < 0) (rt (-1000000000001 : Int64)) (bd (gR [10] 20 (some o)) fun v7 => bd (aI 0 v7 x1) fun v8 => br (x2 < v8) (bd (gR [10] 21 (some o)) fun v10 => bd (F_X11_kept x1 x3) fun c11 => bd (sL v10 (((64 : Int32) * x1) + x2) c11) fun _ => bd (gR [10] 21 (some o)) fun v12 => bd (aL v12 (((64 : Int32) * x1) + x2)) fun v13 => rt v13) (rt (-1000000000001 : Int64)))) (rt (-1000000000000 : Int64)))
set_option maxHeartbeats 4000000 in
set_option maxRecDepth 100000 in
theorem t_X11_hold (l : Launch) (D : va_G) (cy : Nat → ClassId) (z : Nat) (o : Nat) (x1 : Int32) (x2 : Int32) (x3 : Int64) : MT l D cy z yX11_hold cX11_hold 5 (some .long) 1 40 (F_X11_hold o x1 x2 x3) vL [.ref o, .int x1, .int x2, .long x3] := by
  refine m_enter [(0, .ref o), (1, .int x1), (2, .int x2), (3, .long x3)] (by decide) (by first | rfl | simp [lv_args, m_cat, m_ci, m_cl, m_cf, m_cd, m_cr]) (by first | exact Nat.le_of_ble_eq_true rfl | simp [lg_sl, m_cat, m_ci, m_cl, m_cf, m_cd, m_cr]) ?_
  intro p e R s m args below meth c ws0 wsf rr cx hE ws H locs cells slots ls hl hH hF
  obtain ⟨hx, hb, hr, hml, hown, hk, hz, hlocks, hnm, hfr, hlo⟩ := id cx
  unfold F_X11_hold at hF
  refine lv_iload_n hx hb dX11_hold_0 rfl (lv_at hl 1 rfl) ?_
  refine m_cSI hx hb hml hown hk hH hE.le hz (As := [.int x1]) (rest := []) (t_X11_isBank l D cy z x1) hF wd_1050 wd_1051 wd_38 wd_1052 yn_X11_isBank ⟨Nat.le_trans (by decide) hfr, Nat.le_trans (by decide) hlo⟩ hl.1 (by first | exact Nat.le_of_ble_eq_true rfl | simp [m_cat, m_ci, m_cl, m_cf, m_cd, m_cr]) rfl dX11_hold_1 (fun c1 ws H locs cells slots hH hF => ?_)
  refine lv_if_ne (tgt := 11) hx hb dX11_hold_4 (by decide) (fun hc1 => ?_) (fun hc1 => ?_)
  · have hF := bq_f hc1 hF
    refine lv_aload_n hx hb dX11_hold_11 rfl (lv_at hl 0 rfl) ?_
    refine m_gR hx hb hown hk hH hF fk_RX11_bankSize lk_RX11_66 dX11_hold_12 (fun v3 hF => ?_)
    refine lv_iload_n hx hb dX11_hold_15 rfl (lv_at hl 1 rfl) ?_
    refine m_aI0 hx hb hk hH hF dX11_hold_16 (fun v4 hF => ?_)
    refine lv_if_ge (tgt := 24) hx hb dX11_hold_17 (by decide) (fun hc4 => ?_) (fun hc4 => ?_)
    · have hF := bq_t hc4 hF
      refine lv_iload_n hx hb dX11_hold_24 rfl (lv_at hl 2 rfl) ?_
      refine lv_if_lt (tgt := 38) hx hb dX11_hold_25 (by decide) (fun hc5 => ?_) (fun hc5 => ?_)
      · have hF := bq_t hc5 hF
        refine lv_ldc2 hx hb hown (hk.wd wd_1063 args) dX11_hold_38 ?_
        exact m_lret hx hb hr hlocks hH hE hF dX11_hold_41
      · have hF := bq_f hc5 hF
        refine lv_iload_n hx hb dX11_hold_28 rfl (lv_at hl 2 rfl) ?_
        refine lv_aload_n hx hb dX11_hold_29 rfl (lv_at hl 0 rfl) ?_
        refine m_gR hx hb hown hk hH hF fk_RX11_bankSize lk_RX11_66 dX11_hold_30 (fun v7 hF => ?_)
        refine lv_iload_n hx hb dX11_hold_33 rfl (lv_at hl 1 rfl) ?_
        refine m_aI0 hx hb hk hH hF dX11_hold_34 (fun v8 hF => ?_)
        refine lv_icmp_lt (tgt := 42) hx hb dX11_hold_35 (by decide) (fun hc8 => ?_) (fun hc8 => ?_)
        · have hF := bq_t hc8 hF
          refine lv_aload_n hx hb dX11_hold_42 rfl (lv_at hl 0 rfl) ?_
          refine m_gR hx hb hown hk hH hF fk_RX11_bank lk_RX11_69 dX11_hold_43 (fun v10 hF => ?_)
          refine lv_bipush (v := (64)) hx hb dX11_hold_46 (by decide) ?_
          refine lv_iload_n hx hb dX11_hold_48 rfl (lv_at hl 1 rfl) ?_
          refine lv_imul hx hb dX11_hold_49 ?_
          refine lv_iload_n hx hb dX11_hold_50 rfl (lv_at hl 2 rfl) ?_
          refine lv_iadd hx hb dX11_hold_51 ?_
          refine lv_iload_n hx hb dX11_hold_52 rfl (lv_at hl 1 rfl) ?_
          refine lv_lload_n hx hb dX11_hold_53 rfl (lv_at hl 3 rfl) ?_
          refine m_cSL hx hb hml hown hk hH hE.le hz (As := [.int x1, .long x3]) (rest := [.int (((64 : Int32) * x1) + x2), va_rf v10]) (t_X11_kept l D cy z x1 x3) hF wd_1064 wd_1065 wd_38 wd_1066 yn_X11_kept ⟨Nat.le_trans (by decide) hfr, Nat.le_trans (by decide) hlo⟩ hl.1 (by first | exact Nat.le_of_ble_eq_true rfl | simp [m_cat, m_ci, m_cl, m_cf, m_cd, m_cr]) rfl dX11_hold_54 (fun c11 ws H locs cells slots hH hF => ?_)
          refine m_sL hx hb hk hH hF dX11_hold_57 (fun ws H locs hH hF => ?_)
          refine lv_aload_n hx hb dX11_hold_58 rfl (lv_at hl 0 rfl) ?_
          refine m_gR hx hb hown hk hH hF fk_RX11_bank lk_RX11_69 dX11_hold_59 (fun v12 hF => ?_)
          refine lv_bipush (v := (64)) hx hb dX11_hold_62 (by decide) ?_
          refine lv_iload_n hx hb dX11_hold_64 rfl (lv_at hl 1 rfl) ?_
          refine lv_imul hx hb dX11_hold_65 ?_
          refine lv_iload_n hx hb dX11_hold_66 rfl (lv_at hl 2 rfl) ?_
          refine lv_iadd hx hb dX11_hold_67 ?_
          refine m_aL hx hb hk hH hF dX11_hold_68 (fun v13 hF => ?_)
          exact m_lret hx hb hr hlocks hH hE hF dX11_hold_69
        · have hF := bq_f hc8 hF
          refine lv_ldc2 hx hb hown (hk.wd wd_1063 args) dX11_hold_38 ?_
          exact m_lret hx hb hr hlocks hH hE hF dX11_hold_41
    · have hF := bq_f hc4 hF
      refine lv_ldc2 hx hb hown (hk.wd wd_1062 args) dX11_hold_20 ?_
      exact m_lret hx hb hr hlocks hH hE hF dX11_hold_23
  · have hF := bq_t hc1 hF
    refine lv_ldc2 hx hb hown (hk.wd wd_983 args) dX11_hold_7 ?_
    exact m_lret hx hb hr hlocks hH hE hF dX11_hold_10

def F_X11_held (o : Nat) (x1 : Int32) (x2 : Int32) : St (Int64) :=
  bd (F_X11_isBank x1) fun c1 => br (c1 = 0) (rt (-2 : Int64)) (bd (gR [10] 20 (some o)) fun v3 => bd (aI 0 v3 x1) fun v4 => br (0 ≤ v4) (br (x2 < 0) (rt (-1000000000001 : Int64)) (bd (gR [10] 20 (some o)) fun v7 => bd (aI 0 v7 x1) fun v8 => br (x2 < v8) (bd (gR [10] 21 (some o)) fun v10 => bd (aL v10 (((64 : Int32) * x1) + x2)) fun v11 => rt v11) (rt (-1000000000001 : Int64)))) (rt (-1000000000000 : Int64)))
set_option maxHeartbeats 4000000 in
set_option maxRecDepth 100000 in
theorem t_X11_held (l : Launch) (D : va_G) (cy : Nat → ClassId) (z : Nat) (o : Nat) (x1 : Int32) (x2 : Int32) : MT l D cy z yX11_held cX11_held 3 (some .long) 1 40 (F_X11_held o x1 x2) vL [.ref o, .int x1, .int x2] := by
  refine m_enter [(0, .ref o), (1, .int x1), (2, .int x2)] (by decide) (by first | rfl | simp [lv_args, m_cat, m_ci, m_cl, m_cf, m_cd, m_cr]) (by first | exact Nat.le_of_ble_eq_true rfl | simp [lg_sl, m_cat, m_ci, m_cl, m_cf, m_cd, m_cr]) ?_
  intro p e R s m args below meth c ws0 wsf rr cx hE ws H locs cells slots ls hl hH hF
  obtain ⟨hx, hb, hr, hml, hown, hk, hz, hlocks, hnm, hfr, hlo⟩ := id cx
  unfold F_X11_held at hF
  refine lv_iload_n hx hb dX11_held_0 rfl (lv_at hl 1 rfl) ?_
  refine m_cSI hx hb hml hown hk hH hE.le hz (As := [.int x1]) (rest := []) (t_X11_isBank l D cy z x1) hF wd_1050 wd_1051 wd_38 wd_1052 yn_X11_isBank ⟨Nat.le_trans (by decide) hfr, Nat.le_trans (by decide) hlo⟩ hl.1 (by first | exact Nat.le_of_ble_eq_true rfl | simp [m_cat, m_ci, m_cl, m_cf, m_cd, m_cr]) rfl dX11_held_1 (fun c1 ws H locs cells slots hH hF => ?_)
  refine lv_if_ne (tgt := 11) hx hb dX11_held_4 (by decide) (fun hc1 => ?_) (fun hc1 => ?_)
  · have hF := bq_f hc1 hF
    refine lv_aload_n hx hb dX11_held_11 rfl (lv_at hl 0 rfl) ?_
    refine m_gR hx hb hown hk hH hF fk_RX11_bankSize lk_RX11_66 dX11_held_12 (fun v3 hF => ?_)
    refine lv_iload_n hx hb dX11_held_15 rfl (lv_at hl 1 rfl) ?_
    refine m_aI0 hx hb hk hH hF dX11_held_16 (fun v4 hF => ?_)
    refine lv_if_ge (tgt := 24) hx hb dX11_held_17 (by decide) (fun hc4 => ?_) (fun hc4 => ?_)
    · have hF := bq_t hc4 hF
      refine lv_iload_n hx hb dX11_held_24 rfl (lv_at hl 2 rfl) ?_
      refine lv_if_lt (tgt := 38) hx hb dX11_held_25 (by decide) (fun hc5 => ?_) (fun hc5 => ?_)
      · have hF := bq_t hc5 hF
        refine lv_ldc2 hx hb hown (hk.wd wd_1063 args) dX11_held_38 ?_
        refine lv_goto (tgt := 55) hx hb dX11_held_41 (by decide) ?_
        exact m_lret hx hb hr hlocks hH hE hF dX11_held_55
      · have hF := bq_f hc5 hF
        refine lv_iload_n hx hb dX11_held_28 rfl (lv_at hl 2 rfl) ?_
        refine lv_aload_n hx hb dX11_held_29 rfl (lv_at hl 0 rfl) ?_
        refine m_gR hx hb hown hk hH hF fk_RX11_bankSize lk_RX11_66 dX11_held_30 (fun v7 hF => ?_)
        refine lv_iload_n hx hb dX11_held_33 rfl (lv_at hl 1 rfl) ?_
        refine m_aI0 hx hb hk hH hF dX11_held_34 (fun v8 hF => ?_)
        refine lv_icmp_lt (tgt := 44) hx hb dX11_held_35 (by decide) (fun hc8 => ?_) (fun hc8 => ?_)
        · have hF := bq_t hc8 hF
          refine lv_aload_n hx hb dX11_held_44 rfl (lv_at hl 0 rfl) ?_
          refine m_gR hx hb hown hk hH hF fk_RX11_bank lk_RX11_69 dX11_held_45 (fun v10 hF => ?_)
          refine lv_bipush (v := (64)) hx hb dX11_held_48 (by decide) ?_
          refine lv_iload_n hx hb dX11_held_50 rfl (lv_at hl 1 rfl) ?_
          refine lv_imul hx hb dX11_held_51 ?_
          refine lv_iload_n hx hb dX11_held_52 rfl (lv_at hl 2 rfl) ?_
          refine lv_iadd hx hb dX11_held_53 ?_
          refine m_aL hx hb hk hH hF dX11_held_54 (fun v11 hF => ?_)
          exact m_lret hx hb hr hlocks hH hE hF dX11_held_55
        · have hF := bq_f hc8 hF
          refine lv_ldc2 hx hb hown (hk.wd wd_1063 args) dX11_held_38 ?_
          refine lv_goto (tgt := 55) hx hb dX11_held_41 (by decide) ?_
          exact m_lret hx hb hr hlocks hH hE hF dX11_held_55
    · have hF := bq_f hc4 hF
      refine lv_ldc2 hx hb hown (hk.wd wd_1062 args) dX11_held_20 ?_
      exact m_lret hx hb hr hlocks hH hE hF dX11_held_23
  · have hF := bq_t hc1 hF
    refine lv_ldc2 hx hb hown (hk.wd wd_983 args) dX11_held_7 ?_
    exact m_lret hx hb hr hlocks hH hE hF dX11_held_10

def F_X11_readings (o : Nat) (x1 : Int32) : St (Int32) :=
  bd (F_X11_isSensor x1) fun c1 => br (c1 = 0) (rt (-2 : Int32)) (bd (gR [10] 0 (some o)) fun v3 => bd (aI 0 v3 x1) fun v4 => rt v4)
set_option maxHeartbeats 4000000 in
set_option maxRecDepth 100000 in
theorem t_X11_readings (l : Launch) (D : va_G) (cy : Nat → ClassId) (z : Nat) (o : Nat) (x1 : Int32) : MT l D cy z yX11_readings cX11_readings 2 (some .int) 1 40 (F_X11_readings o x1) vI [.ref o, .int x1] := by
  refine m_enter [(0, .ref o), (1, .int x1)] (by decide) (by first | rfl | simp [lv_args, m_cat, m_ci, m_cl, m_cf, m_cd, m_cr]) (by first | exact Nat.le_of_ble_eq_true rfl | simp [lg_sl, m_cat, m_ci, m_cl, m_cf, m_cd, m_cr]) ?_
  intro p e R s m args below meth c ws0 wsf rr cx hE ws H locs cells slots ls hl hH hF
  obtain ⟨hx, hb, hr, hml, hown, hk, hz, hlocks, hnm, hfr, hlo⟩ := id cx
  unfold F_X11_readings at hF
  refine lv_iload_n hx hb dX11_readings_0 rfl (lv_at hl 1 rfl) ?_
  refine m_cSI hx hb hml hown hk hH hE.le hz (As := [.int x1]) (rest := []) (t_X11_isSensor l D cy z x1) hF wd_843 wd_844 wd_38 wd_845 yn_X11_isSensor ⟨Nat.le_trans (by decide) hfr, Nat.le_trans (by decide) hlo⟩ hl.1 (by first | exact Nat.le_of_ble_eq_true rfl | simp [m_cat, m_ci, m_cl, m_cf, m_cd, m_cr]) rfl dX11_readings_1 (fun c1 ws H locs cells slots hH hF => ?_)
  refine lv_if_eq (tgt := 16) hx hb dX11_readings_4 (by decide) (fun hc1 => ?_) (fun hc1 => ?_)
  · have hF := bq_t hc1 hF
    refine lv_bipush (v := (-2)) hx hb dX11_readings_16 (by decide) ?_
    exact m_iret hx hb hr hlocks hH hE hF rfl dX11_readings_18
  · have hF := bq_f hc1 hF
    refine lv_aload_n hx hb dX11_readings_7 rfl (lv_at hl 0 rfl) ?_
    refine m_gR hx hb hown hk hH hF fk_RX11_readings lk_RX11_9 dX11_readings_8 (fun v3 hF => ?_)
    refine lv_iload_n hx hb dX11_readings_11 rfl (lv_at hl 1 rfl) ?_
    refine m_aI0 hx hb hk hH hF dX11_readings_12 (fun v4 hF => ?_)
    refine lv_goto (tgt := 18) hx hb dX11_readings_13 (by decide) ?_
    exact m_iret hx hb hr hlocks hH hE hF rfl dX11_readings_18

def j_X11_count_69 (rec : Int32 → Int32 → St (Int32)) (k : Int32 → St (Int32)) (x0 : Nat) (x3 : Int32) (s0 : Int32) (s1 : Int32) : St (Int32) :=
  bd (rt (s0 + s1)) fun v8 => rec v8 (x3 + (1 : Int32))
def b_X11_count_48 (x0 : Nat) (rec : Int32 → Int32 → St (Int32)) (k : Int32 → St (Int32)) (x2 : Int32) (x3 : Int32) : St (Int32) :=
  br ((8 : Int32) ≤ x3) (k x2) (bd (gR [10] 0 (some x0)) fun v5 => bd (aI 0 v5 x3) fun v6 => br (v6 ≤ 0) (j_X11_count_69 rec k x0 x3 x2 (0 : Int32)) (j_X11_count_69 rec k x0 x3 x2 (1 : Int32)))
def l_X11_count_48 (x0 : Nat) (k : Int32 → St (Int32)) : Nat → Int32 → Int32 → St (Int32)
  | 0 => fun _ _ => fl
  | n + 1 => fun x2 x3 => b_X11_count_48 x0 (l_X11_count_48 x0 k n) k x2 x3
def j_X11_count_101 (rec : Int32 → Int32 → St (Int32)) (k : Int32 → St (Int32)) (x0 : Nat) (x3 : Int32) (s0 : Int32) (s1 : Int32) : St (Int32) :=
  bd (rt (s0 + s1)) fun v14 => rec v14 (x3 + (1 : Int32))
def b_X11_count_81 (x0 : Nat) (rec : Int32 → Int32 → St (Int32)) (k : Int32 → St (Int32)) (x2 : Int32) (x3 : Int32) : St (Int32) :=
  br ((4 : Int32) ≤ x3) (k x2) (bd (gR [10] 17 (some x0)) fun v11 => bd (aI 0 v11 x3) fun v12 => br (v12 < 0) (j_X11_count_101 rec k x0 x3 x2 (0 : Int32)) (j_X11_count_101 rec k x0 x3 x2 (1 : Int32)))
def l_X11_count_81 (x0 : Nat) (k : Int32 → St (Int32)) : Nat → Int32 → Int32 → St (Int32)
  | 0 => fun _ _ => fl
  | n + 1 => fun x2 x3 => b_X11_count_81 x0 (l_X11_count_81 x0 k n) k x2 x3
def j_X11_count_134 (rec : Int32 → Int32 → St (Int32)) (k : Int32 → St (Int32)) (x0 : Nat) (x3 : Int32) (s0 : Int32) (s1 : Int32) : St (Int32) :=
  bd (rt (s0 + s1)) fun v20 => rec v20 (x3 + (1 : Int32))
def b_X11_count_113 (x0 : Nat) (rec : Int32 → Int32 → St (Int32)) (k : Int32 → St (Int32)) (x2 : Int32) (x3 : Int32) : St (Int32) :=
  br ((8 : Int32) ≤ x3) (k x2) (bd (gR [10] 20 (some x0)) fun v17 => bd (aI 0 v17 x3) fun v18 => br (v18 < 0) (j_X11_count_134 rec k x0 x3 x2 (0 : Int32)) (j_X11_count_134 rec k x0 x3 x2 (1 : Int32)))
def l_X11_count_113 (x0 : Nat) (k : Int32 → St (Int32)) : Nat → Int32 → Int32 → St (Int32)
  | 0 => fun _ _ => fl
  | n + 1 => fun x2 x3 => b_X11_count_113 x0 (l_X11_count_113 x0 k n) k x2 x3
def F_X11_count (o : Nat) (x1 : Int32) : St (Int32) :=
  bd (rt x1) fun w1 => br (w1 = (0)) (bd (gI [10] 4 (some o)) fun v2 => rt v2) (br (w1 = (1)) (bd (gI [10] 8 (some o)) fun v3 => rt v3) (br (w1 = (2)) (l_X11_count_48 o (fun (e9 : Int32) => rt e9) FU (0 : Int32) (0 : Int32)) (br (w1 = (3)) (l_X11_count_81 o (fun (e15 : Int32) => rt e15) FU (0 : Int32) (0 : Int32)) (br (w1 = (4)) (l_X11_count_113 o (fun (e21 : Int32) => rt e21) FU (0 : Int32) (0 : Int32)) (rt (-2 : Int32))))))
set_option maxHeartbeats 4000000 in
set_option maxRecDepth 100000 in
theorem w_X11_count_69 {l : Launch} {D : va_G} {cy : Nat → ClassId} {z : Nat} {p : Program} {e : Env} {R : Room} {s : State} {m : MethodId} {args : Array Value} {below : List Frame} {meth : Method} {c : Code} {ws0 wsf : WS} {rr : Int32} (cx : Cx D cy z RX11 cX11_count 4 (some .int) 0 0 "count" p R s m meth c) (hE : AC ws0 wsf R.cells R.slots) (rec : Int32 → Int32 → St (Int32)) (k : Int32 → St (Int32)) (x0 : Nat) (hrec : ∀ (x2 : Int32) (x3 : Int32), At_ l D cy z p e R s m args below meth c ws0 wsf vI rr 4 48 [(0, .ref x0), (2, .int x2), (3, .int x3)] [] (rec x2 x3)) (hkk : ∀ (x2 : Int32), At_ l D cy z p e R s m args below meth c ws0 wsf vI rr 4 77 [(2, .int x2)] [] (k x2)) (x3 : Int32) (s0 : Int32) (s1 : Int32) : At_ l D cy z p e R s m args below meth c ws0 wsf vI rr 4 69 [(0, .ref x0), (3, .int x3)] [.int s1, .int s0] (j_X11_count_69 rec k x0 x3 s0 s1) := by
  intro ws H locs cells slots ls hl hH hF
  obtain ⟨hx, hb, hr, hml, hown, hk, hz, hlocks, hnm, hfr, hlo⟩ := id cx
  unfold j_X11_count_69 at hF
  refine lv_iadd hx hb dX11_count_69 ?_
  refine lv_topi (fun v8 hv8 => ?_)
  have hF := rt_t hv8 hF
  refine lv_istore_n (lv' := [(2, .int v8), (0, .ref x0), (3, .int x3)]) hx hb dX11_count_70 rfl hl (by decide) (by first | rfl | simp [m_cat, m_ci, m_cl, m_cf, m_cd, m_cr]) (fun ls hl => ?_)
  refine lv_iinc (v := (x3 + (1 : Int32))) (lv' := [(3, .int (x3 + (1 : Int32))), (2, .int v8), (0, .ref x0)]) hx hb dX11_count_71 hl (k := 2) rfl (by first | rfl | (congr 1)) (by decide) (by first | rfl | simp [m_cat, m_ci, m_cl, m_cf, m_cd, m_cr]) (fun ls hl => ?_)
  refine lv_goto (tgt := 48) hx hb dX11_count_74 (by decide) ?_
  exact hrec _ _ _ _ _ _ _ _ (lv_sub hl [2, 1, 0] rfl) hH hF
set_option maxHeartbeats 4000000 in
set_option maxRecDepth 100000 in
theorem wb_X11_count_48 {l : Launch} {D : va_G} {cy : Nat → ClassId} {z : Nat} {p : Program} {e : Env} {R : Room} {s : State} {m : MethodId} {args : Array Value} {below : List Frame} {meth : Method} {c : Code} {ws0 wsf : WS} {rr : Int32} (cx : Cx D cy z RX11 cX11_count 4 (some .int) 0 0 "count" p R s m meth c) (hE : AC ws0 wsf R.cells R.slots) (x0 : Nat) (rec : Int32 → Int32 → St (Int32)) (k : Int32 → St (Int32)) (hrec : ∀ (x2 : Int32) (x3 : Int32), At_ l D cy z p e R s m args below meth c ws0 wsf vI rr 4 48 [(0, .ref x0), (2, .int x2), (3, .int x3)] [] (rec x2 x3)) (hkk : ∀ (x2 : Int32), At_ l D cy z p e R s m args below meth c ws0 wsf vI rr 4 77 [(2, .int x2)] [] (k x2)) (x2 : Int32) (x3 : Int32) : At_ l D cy z p e R s m args below meth c ws0 wsf vI rr 4 48 [(0, .ref x0), (2, .int x2), (3, .int x3)] [] (b_X11_count_48 x0 rec k x2 x3) := by
  intro ws H locs cells slots ls hl hH hF
  obtain ⟨hx, hb, hr, hml, hown, hk, hz, hlocks, hnm, hfr, hlo⟩ := id cx
  unfold b_X11_count_48 at hF
  refine lv_iload_n hx hb dX11_count_48 rfl (lv_at hl 2 rfl) ?_
  refine lv_bipush (v := (8)) hx hb dX11_count_49 (by decide) ?_
  refine lv_icmp_ge (tgt := 77) hx hb dX11_count_51 (by decide) (fun hc3 => ?_) (fun hc3 => ?_)
  · have hF := bq_t hc3 hF
    exact hkk _ _ _ _ _ _ _ (lv_sub hl [1] rfl) hH hF
  · have hF := bq_f hc3 hF
    refine lv_iload_n hx hb dX11_count_54 rfl (lv_at hl 1 rfl) ?_
    refine lv_aload_n hx hb dX11_count_55 rfl (lv_at hl 0 rfl) ?_
    refine m_gR hx hb hown hk hH hF fk_RX11_readings lk_RX11_9 dX11_count_56 (fun v5 hF => ?_)
    refine lv_iload_n hx hb dX11_count_59 rfl (lv_at hl 2 rfl) ?_
    refine m_aI0 hx hb hk hH hF dX11_count_60 (fun v6 hF => ?_)
    refine lv_if_le (tgt := 68) hx hb dX11_count_61 (by decide) (fun hc6 => ?_) (fun hc6 => ?_)
    · have hF := bq_t hc6 hF
      refine lv_iconst (v := (0)) hx hb dX11_count_68 (by decide) ?_
      exact w_X11_count_69 cx hE _ _ x0 hrec hkk x3 x2 (0 : Int32) _ _ _ _ _ _ (lv_sub hl [0, 2] rfl) hH hF
    · have hF := bq_f hc6 hF
      refine lv_iconst (v := (1)) hx hb dX11_count_64 (by decide) ?_
      refine lv_goto (tgt := 69) hx hb dX11_count_65 (by decide) ?_
      exact w_X11_count_69 cx hE _ _ x0 hrec hkk x3 x2 (1 : Int32) _ _ _ _ _ _ (lv_sub hl [0, 2] rfl) hH hF
theorem w_X11_count_48 {l : Launch} {D : va_G} {cy : Nat → ClassId} {z : Nat} {p : Program} {e : Env} {R : Room} {s : State} {m : MethodId} {args : Array Value} {below : List Frame} {meth : Method} {c : Code} {ws0 wsf : WS} {rr : Int32} (cx : Cx D cy z RX11 cX11_count 4 (some .int) 0 0 "count" p R s m meth c) (hE : AC ws0 wsf R.cells R.slots) (x0 : Nat) (k : Int32 → St (Int32)) (hkk : ∀ (x2 : Int32), At_ l D cy z p e R s m args below meth c ws0 wsf vI rr 4 77 [(2, .int x2)] [] (k x2)) : ∀ (n : Nat) (x2 : Int32) (x3 : Int32), At_ l D cy z p e R s m args below meth c ws0 wsf vI rr 4 48 [(0, .ref x0), (2, .int x2), (3, .int x3)] [] (l_X11_count_48 x0 k n x2 x3) := by
  intro n
  induction n with
  | zero =>
    intro x2 x3 ws H locs cells slots ls hl hH hF
    exact fl_t hF
  | succ n ih =>
    intro x2 x3
    exact wb_X11_count_48 cx hE x0 (l_X11_count_48 x0 k n) k ih hkk x2 x3
set_option maxHeartbeats 4000000 in
set_option maxRecDepth 100000 in
theorem w_X11_count_101 {l : Launch} {D : va_G} {cy : Nat → ClassId} {z : Nat} {p : Program} {e : Env} {R : Room} {s : State} {m : MethodId} {args : Array Value} {below : List Frame} {meth : Method} {c : Code} {ws0 wsf : WS} {rr : Int32} (cx : Cx D cy z RX11 cX11_count 4 (some .int) 0 0 "count" p R s m meth c) (hE : AC ws0 wsf R.cells R.slots) (rec : Int32 → Int32 → St (Int32)) (k : Int32 → St (Int32)) (x0 : Nat) (hrec : ∀ (x2 : Int32) (x3 : Int32), At_ l D cy z p e R s m args below meth c ws0 wsf vI rr 4 81 [(0, .ref x0), (2, .int x2), (3, .int x3)] [] (rec x2 x3)) (hkk : ∀ (x2 : Int32), At_ l D cy z p e R s m args below meth c ws0 wsf vI rr 4 109 [(2, .int x2)] [] (k x2)) (x3 : Int32) (s0 : Int32) (s1 : Int32) : At_ l D cy z p e R s m args below meth c ws0 wsf vI rr 4 101 [(0, .ref x0), (3, .int x3)] [.int s1, .int s0] (j_X11_count_101 rec k x0 x3 s0 s1) := by
  intro ws H locs cells slots ls hl hH hF
  obtain ⟨hx, hb, hr, hml, hown, hk, hz, hlocks, hnm, hfr, hlo⟩ := id cx
  unfold j_X11_count_101 at hF
  refine lv_iadd hx hb dX11_count_101 ?_
  refine lv_topi (fun v14 hv14 => ?_)
  have hF := rt_t hv14 hF
  refine lv_istore_n (lv' := [(2, .int v14), (0, .ref x0), (3, .int x3)]) hx hb dX11_count_102 rfl hl (by decide) (by first | rfl | simp [m_cat, m_ci, m_cl, m_cf, m_cd, m_cr]) (fun ls hl => ?_)
  refine lv_iinc (v := (x3 + (1 : Int32))) (lv' := [(3, .int (x3 + (1 : Int32))), (2, .int v14), (0, .ref x0)]) hx hb dX11_count_103 hl (k := 2) rfl (by first | rfl | (congr 1)) (by decide) (by first | rfl | simp [m_cat, m_ci, m_cl, m_cf, m_cd, m_cr]) (fun ls hl => ?_)
  refine lv_goto (tgt := 81) hx hb dX11_count_106 (by decide) ?_
  exact hrec _ _ _ _ _ _ _ _ (lv_sub hl [2, 1, 0] rfl) hH hF
set_option maxHeartbeats 4000000 in
set_option maxRecDepth 100000 in
theorem wb_X11_count_81 {l : Launch} {D : va_G} {cy : Nat → ClassId} {z : Nat} {p : Program} {e : Env} {R : Room} {s : State} {m : MethodId} {args : Array Value} {below : List Frame} {meth : Method} {c : Code} {ws0 wsf : WS} {rr : Int32} (cx : Cx D cy z RX11 cX11_count 4 (some .int) 0 0 "count" p R s m meth c) (hE : AC ws0 wsf R.cells R.slots) (x0 : Nat) (rec : Int32 → Int32 → St (Int32)) (k : Int32 → St (Int32)) (hrec : ∀ (x2 : Int32) (x3 : Int32), At_ l D cy z p e R s m args below meth c ws0 wsf vI rr 4 81 [(0, .ref x0), (2, .int x2), (3, .int x3)] [] (rec x2 x3)) (hkk : ∀ (x2 : Int32), At_ l D cy z p e R s m args below meth c ws0 wsf vI rr 4 109 [(2, .int x2)] [] (k x2)) (x2 : Int32) (x3 : Int32) : At_ l D cy z p e R s m args below meth c ws0 wsf vI rr 4 81 [(0, .ref x0), (2, .int x2), (3, .int x3)] [] (b_X11_count_81 x0 rec k x2 x3) := by
  intro ws H locs cells slots ls hl hH hF
  obtain ⟨hx, hb, hr, hml, hown, hk, hz, hlocks, hnm, hfr, hlo⟩ := id cx
  unfold b_X11_count_81 at hF
  refine lv_iload_n hx hb dX11_count_81 rfl (lv_at hl 2 rfl) ?_
  refine lv_iconst (v := (4)) hx hb dX11_count_82 (by decide) ?_
  refine lv_icmp_ge (tgt := 109) hx hb dX11_count_83 (by decide) (fun hc9 => ?_) (fun hc9 => ?_)
  · have hF := bq_t hc9 hF
    exact hkk _ _ _ _ _ _ _ (lv_sub hl [1] rfl) hH hF
  · have hF := bq_f hc9 hF
    refine lv_iload_n hx hb dX11_count_86 rfl (lv_at hl 1 rfl) ?_
    refine lv_aload_n hx hb dX11_count_87 rfl (lv_at hl 0 rfl) ?_
    refine m_gR hx hb hown hk hH hF fk_RX11_tableCurve lk_RX11_56 dX11_count_88 (fun v11 hF => ?_)
    refine lv_iload_n hx hb dX11_count_91 rfl (lv_at hl 2 rfl) ?_
    refine m_aI0 hx hb hk hH hF dX11_count_92 (fun v12 hF => ?_)
    refine lv_if_lt (tgt := 100) hx hb dX11_count_93 (by decide) (fun hc12 => ?_) (fun hc12 => ?_)
    · have hF := bq_t hc12 hF
      refine lv_iconst (v := (0)) hx hb dX11_count_100 (by decide) ?_
      exact w_X11_count_101 cx hE _ _ x0 hrec hkk x3 x2 (0 : Int32) _ _ _ _ _ _ (lv_sub hl [0, 2] rfl) hH hF
    · have hF := bq_f hc12 hF
      refine lv_iconst (v := (1)) hx hb dX11_count_96 (by decide) ?_
      refine lv_goto (tgt := 101) hx hb dX11_count_97 (by decide) ?_
      exact w_X11_count_101 cx hE _ _ x0 hrec hkk x3 x2 (1 : Int32) _ _ _ _ _ _ (lv_sub hl [0, 2] rfl) hH hF
theorem w_X11_count_81 {l : Launch} {D : va_G} {cy : Nat → ClassId} {z : Nat} {p : Program} {e : Env} {R : Room} {s : State} {m : MethodId} {args : Array Value} {below : List Frame} {meth : Method} {c : Code} {ws0 wsf : WS} {rr : Int32} (cx : Cx D cy z RX11 cX11_count 4 (some .int) 0 0 "count" p R s m meth c) (hE : AC ws0 wsf R.cells R.slots) (x0 : Nat) (k : Int32 → St (Int32)) (hkk : ∀ (x2 : Int32), At_ l D cy z p e R s m args below meth c ws0 wsf vI rr 4 109 [(2, .int x2)] [] (k x2)) : ∀ (n : Nat) (x2 : Int32) (x3 : Int32), At_ l D cy z p e R s m args below meth c ws0 wsf vI rr 4 81 [(0, .ref x0), (2, .int x2), (3, .int x3)] [] (l_X11_count_81 x0 k n x2 x3) := by
  intro n
  induction n with
  | zero =>
    intro x2 x3 ws H locs cells slots ls hl hH hF
    exact fl_t hF
  | succ n ih =>
    intro x2 x3
    exact wb_X11_count_81 cx hE x0 (l_X11_count_81 x0 k n) k ih hkk x2 x3
set_option maxHeartbeats 4000000 in
set_option maxRecDepth 100000 in
theorem w_X11_count_134 {l : Launch} {D : va_G} {cy : Nat → ClassId} {z : Nat} {p : Program} {e : Env} {R : Room} {s : State} {m : MethodId} {args : Array Value} {below : List Frame} {meth : Method} {c : Code} {ws0 wsf : WS} {rr : Int32} (cx : Cx D cy z RX11 cX11_count 4 (some .int) 0 0 "count" p R s m meth c) (hE : AC ws0 wsf R.cells R.slots) (rec : Int32 → Int32 → St (Int32)) (k : Int32 → St (Int32)) (x0 : Nat) (hrec : ∀ (x2 : Int32) (x3 : Int32), At_ l D cy z p e R s m args below meth c ws0 wsf vI rr 4 113 [(0, .ref x0), (2, .int x2), (3, .int x3)] [] (rec x2 x3)) (hkk : ∀ (x2 : Int32), At_ l D cy z p e R s m args below meth c ws0 wsf vI rr 4 142 [(2, .int x2)] [] (k x2)) (x3 : Int32) (s0 : Int32) (s1 : Int32) : At_ l D cy z p e R s m args below meth c ws0 wsf vI rr 4 134 [(0, .ref x0), (3, .int x3)] [.int s1, .int s0] (j_X11_count_134 rec k x0 x3 s0 s1) := by
  intro ws H locs cells slots ls hl hH hF
  obtain ⟨hx, hb, hr, hml, hown, hk, hz, hlocks, hnm, hfr, hlo⟩ := id cx
  unfold j_X11_count_134 at hF
  refine lv_iadd hx hb dX11_count_134 ?_
  refine lv_topi (fun v20 hv20 => ?_)
  have hF := rt_t hv20 hF
  refine lv_istore_n (lv' := [(2, .int v20), (0, .ref x0), (3, .int x3)]) hx hb dX11_count_135 rfl hl (by decide) (by first | rfl | simp [m_cat, m_ci, m_cl, m_cf, m_cd, m_cr]) (fun ls hl => ?_)
  refine lv_iinc (v := (x3 + (1 : Int32))) (lv' := [(3, .int (x3 + (1 : Int32))), (2, .int v20), (0, .ref x0)]) hx hb dX11_count_136 hl (k := 2) rfl (by first | rfl | (congr 1)) (by decide) (by first | rfl | simp [m_cat, m_ci, m_cl, m_cf, m_cd, m_cr]) (fun ls hl => ?_)
  refine lv_goto (tgt := 113) hx hb dX11_count_139 (by decide) ?_
  exact hrec _ _ _ _ _ _ _ _ (lv_sub hl [2, 1, 0] rfl) hH hF
set_option maxHeartbeats 4000000 in
set_option maxRecDepth 100000 in
theorem wb_X11_count_113 {l : Launch} {D : va_G} {cy : Nat → ClassId} {z : Nat} {p : Program} {e : Env} {R : Room} {s : State} {m : MethodId} {args : Array Value} {below : List Frame} {meth : Method} {c : Code} {ws0 wsf : WS} {rr : Int32} (cx : Cx D cy z RX11 cX11_count 4 (some .int) 0 0 "count" p R s m meth c) (hE : AC ws0 wsf R.cells R.slots) (x0 : Nat) (rec : Int32 → Int32 → St (Int32)) (k : Int32 → St (Int32)) (hrec : ∀ (x2 : Int32) (x3 : Int32), At_ l D cy z p e R s m args below meth c ws0 wsf vI rr 4 113 [(0, .ref x0), (2, .int x2), (3, .int x3)] [] (rec x2 x3)) (hkk : ∀ (x2 : Int32), At_ l D cy z p e R s m args below meth c ws0 wsf vI rr 4 142 [(2, .int x2)] [] (k x2)) (x2 : Int32) (x3 : Int32) : At_ l D cy z p e R s m args below meth c ws0 wsf vI rr 4 113 [(0, .ref x0), (2, .int x2), (3, .int x3)] [] (b_X11_count_113 x0 rec k x2 x3) := by
  intro ws H locs cells slots ls hl hH hF
  obtain ⟨hx, hb, hr, hml, hown, hk, hz, hlocks, hnm, hfr, hlo⟩ := id cx
  unfold b_X11_count_113 at hF
  refine lv_iload_n hx hb dX11_count_113 rfl (lv_at hl 2 rfl) ?_
  refine lv_bipush (v := (8)) hx hb dX11_count_114 (by decide) ?_
  refine lv_icmp_ge (tgt := 142) hx hb dX11_count_116 (by decide) (fun hc15 => ?_) (fun hc15 => ?_)
  · have hF := bq_t hc15 hF
    exact hkk _ _ _ _ _ _ _ (lv_sub hl [1] rfl) hH hF
  · have hF := bq_f hc15 hF
    refine lv_iload_n hx hb dX11_count_119 rfl (lv_at hl 1 rfl) ?_
    refine lv_aload_n hx hb dX11_count_120 rfl (lv_at hl 0 rfl) ?_
    refine m_gR hx hb hown hk hH hF fk_RX11_bankSize lk_RX11_66 dX11_count_121 (fun v17 hF => ?_)
    refine lv_iload_n hx hb dX11_count_124 rfl (lv_at hl 2 rfl) ?_
    refine m_aI0 hx hb hk hH hF dX11_count_125 (fun v18 hF => ?_)
    refine lv_if_lt (tgt := 133) hx hb dX11_count_126 (by decide) (fun hc18 => ?_) (fun hc18 => ?_)
    · have hF := bq_t hc18 hF
      refine lv_iconst (v := (0)) hx hb dX11_count_133 (by decide) ?_
      exact w_X11_count_134 cx hE _ _ x0 hrec hkk x3 x2 (0 : Int32) _ _ _ _ _ _ (lv_sub hl [0, 2] rfl) hH hF
    · have hF := bq_f hc18 hF
      refine lv_iconst (v := (1)) hx hb dX11_count_129 (by decide) ?_
      refine lv_goto (tgt := 134) hx hb dX11_count_130 (by decide) ?_
      exact w_X11_count_134 cx hE _ _ x0 hrec hkk x3 x2 (1 : Int32) _ _ _ _ _ _ (lv_sub hl [0, 2] rfl) hH hF
theorem w_X11_count_113 {l : Launch} {D : va_G} {cy : Nat → ClassId} {z : Nat} {p : Program} {e : Env} {R : Room} {s : State} {m : MethodId} {args : Array Value} {below : List Frame} {meth : Method} {c : Code} {ws0 wsf : WS} {rr : Int32} (cx : Cx D cy z RX11 cX11_count 4 (some .int) 0 0 "count" p R s m meth c) (hE : AC ws0 wsf R.cells R.slots) (x0 : Nat) (k : Int32 → St (Int32)) (hkk : ∀ (x2 : Int32), At_ l D cy z p e R s m args below meth c ws0 wsf vI rr 4 142 [(2, .int x2)] [] (k x2)) : ∀ (n : Nat) (x2 : Int32) (x3 : Int32), At_ l D cy z p e R s m args below meth c ws0 wsf vI rr 4 113 [(0, .ref x0), (2, .int x2), (3, .int x3)] [] (l_X11_count_113 x0 k n x2 x3) := by
  intro n
  induction n with
  | zero =>
    intro x2 x3 ws H locs cells slots ls hl hH hF
    exact fl_t hF
  | succ n ih =>
    intro x2 x3
    exact wb_X11_count_113 cx hE x0 (l_X11_count_113 x0 k n) k ih hkk x2 x3
set_option maxHeartbeats 4000000 in
set_option maxRecDepth 100000 in
theorem t_X11_count (l : Launch) (D : va_G) (cy : Nat → ClassId) (z : Nat) (o : Nat) (x1 : Int32) : MT l D cy z yX11_count cX11_count 4 (some .int) 0 0 (F_X11_count o x1) vI [.ref o, .int x1] := by
  refine m_enter [(0, .ref o), (1, .int x1)] (by decide) (by first | rfl | simp [lv_args, m_cat, m_ci, m_cl, m_cf, m_cd, m_cr]) (by first | exact Nat.le_of_ble_eq_true rfl | simp [lg_sl, m_cat, m_ci, m_cl, m_cf, m_cd, m_cr]) ?_
  intro p e R s m args below meth c ws0 wsf rr cx hE ws H locs cells slots ls hl hH hF
  obtain ⟨hx, hb, hr, hml, hown, hk, hz, hlocks, hnm, hfr, hlo⟩ := id cx
  unfold F_X11_count at hF
  refine lv_iconst (v := (0)) hx hb dX11_count_0 (by decide) ?_
  refine lv_istore_n (lv' := [(2, .int (0 : Int32)), (0, .ref o), (1, .int x1)]) hx hb dX11_count_1 rfl hl (by decide) (by first | rfl | simp [m_cat, m_ci, m_cl, m_cf, m_cd, m_cr]) (fun ls hl => ?_)
  refine lv_iload_n hx hb dX11_count_2 rfl (lv_at hl 2 rfl) ?_
  refine lv_topi (fun w1 hw1 => ?_)
  have hF := rt_t hw1 hF
  by_cases hkw1_0 : w1 = (0)
  · have hF := bq_t hkw1_0 hF
    refine lv_tableIn (off := 33) (tgt := 36) hx hb dX11_count_3 (by rw [hkw1_0]; decide) (by rw [hkw1_0]; decide) (by rw [hkw1_0]; decide) (by decide) ?_
    refine lv_aload_n hx hb dX11_count_36 rfl (lv_at hl 1 rfl) ?_
    refine m_gI hx hb hown hk hH hF fk_RX11_curves lk_RX11_85 dX11_count_37 (fun v2 hF => ?_)
    exact m_iret hx hb hr hlocks hH hE hF rfl dX11_count_40
  · have hF := bq_f hkw1_0 hF
    by_cases hkw1_1 : w1 = (1)
    · have hF := bq_t hkw1_1 hF
      refine lv_tableIn (off := 38) (tgt := 41) hx hb dX11_count_3 (by rw [hkw1_1]; decide) (by rw [hkw1_1]; decide) (by rw [hkw1_1]; decide) (by decide) ?_
      refine lv_aload_n hx hb dX11_count_41 rfl (lv_at hl 1 rfl) ?_
      refine m_gI hx hb hown hk hH hF fk_RX11_knots lk_RX11_111 dX11_count_42 (fun v3 hF => ?_)
      exact m_iret hx hb hr hlocks hH hE hF rfl dX11_count_45
    · have hF := bq_f hkw1_1 hF
      by_cases hkw1_2 : w1 = (2)
      · have hF := bq_t hkw1_2 hF
        refine lv_tableIn (off := 43) (tgt := 46) hx hb dX11_count_3 (by rw [hkw1_2]; decide) (by rw [hkw1_2]; decide) (by rw [hkw1_2]; decide) (by decide) ?_
        refine lv_iconst (v := (0)) hx hb dX11_count_46 (by decide) ?_
        refine lv_istore_n (lv' := [(3, .int (0 : Int32)), (2, .int (0 : Int32)), (0, .ref o), (1, .int x1)]) hx hb dX11_count_47 rfl hl (by decide) (by first | rfl | simp [m_cat, m_ci, m_cl, m_cf, m_cd, m_cr]) (fun ls hl => ?_)
        refine w_X11_count_48 cx hE o _ (fun e9 ws H locs cells slots ls hl hH hF => ?_) _ _ _ _ _ _ _ _ _ (lv_sub hl [2, 1, 0] rfl) hH hF
        refine lv_iload_n hx hb dX11_count_77 rfl (lv_at hl 0 rfl) ?_
        exact m_iret hx hb hr hlocks hH hE hF rfl dX11_count_78
      · have hF := bq_f hkw1_2 hF
        by_cases hkw1_3 : w1 = (3)
        · have hF := bq_t hkw1_3 hF
          refine lv_tableIn (off := 76) (tgt := 79) hx hb dX11_count_3 (by rw [hkw1_3]; decide) (by rw [hkw1_3]; decide) (by rw [hkw1_3]; decide) (by decide) ?_
          refine lv_iconst (v := (0)) hx hb dX11_count_79 (by decide) ?_
          refine lv_istore_n (lv' := [(3, .int (0 : Int32)), (2, .int (0 : Int32)), (0, .ref o), (1, .int x1)]) hx hb dX11_count_80 rfl hl (by decide) (by first | rfl | simp [m_cat, m_ci, m_cl, m_cf, m_cd, m_cr]) (fun ls hl => ?_)
          refine w_X11_count_81 cx hE o _ (fun e15 ws H locs cells slots ls hl hH hF => ?_) _ _ _ _ _ _ _ _ _ (lv_sub hl [2, 1, 0] rfl) hH hF
          refine lv_iload_n hx hb dX11_count_109 rfl (lv_at hl 0 rfl) ?_
          exact m_iret hx hb hr hlocks hH hE hF rfl dX11_count_110
        · have hF := bq_f hkw1_3 hF
          by_cases hkw1_4 : w1 = (4)
          · have hF := bq_t hkw1_4 hF
            refine lv_tableIn (off := 108) (tgt := 111) hx hb dX11_count_3 (by rw [hkw1_4]; decide) (by rw [hkw1_4]; decide) (by rw [hkw1_4]; decide) (by decide) ?_
            refine lv_iconst (v := (0)) hx hb dX11_count_111 (by decide) ?_
            refine lv_istore_n (lv' := [(3, .int (0 : Int32)), (2, .int (0 : Int32)), (0, .ref o), (1, .int x1)]) hx hb dX11_count_112 rfl hl (by decide) (by first | rfl | simp [m_cat, m_ci, m_cl, m_cf, m_cd, m_cr]) (fun ls hl => ?_)
            refine w_X11_count_113 cx hE o _ (fun e21 ws H locs cells slots ls hl hH hF => ?_) _ _ _ _ _ _ _ _ _ (lv_sub hl [2, 1, 0] rfl) hH hF
            refine lv_iload_n hx hb dX11_count_142 rfl (lv_at hl 0 rfl) ?_
            exact m_iret hx hb hr hlocks hH hE hF rfl dX11_count_143
          · have hF := bq_f hkw1_4 hF
            refine lv_tableOut (tgt := 144) hx hb dX11_count_3 (by have g0 := lv_neT hkw1_0 (a := 0) (by decide); have g1 := lv_neT hkw1_1 (a := 1) (by decide); have g2 := lv_neT hkw1_2 (a := 2) (by decide); have g3 := lv_neT hkw1_3 (a := 3) (by decide); have g4 := lv_neT hkw1_4 (a := 4) (by decide); omega) (by decide) ?_
            refine lv_bipush (v := (-2)) hx hb dX11_count_144 (by decide) ?_
            exact m_iret hx hb hr hlocks hH hE hF rfl dX11_count_146
