def F_X3_between (o : Nat) (x1 : Int32) : St (Int32) :=
  bd (dr [2] (some o)) fun q2 => bd (F_X3_howManyUpTo q2.1 x1) fun c1 => br (c1 = 0) (bd (gR [2] 1 (some o)) fun v23 => bd (aI 0 v23 (0 : Int32)) fun v24 => rt v24) (bd (gI [2] 2 (some o)) fun v4 => br (c1 = v4) (bd (gR [2] 1 (some o)) fun v21 => bd (aI 0 v21 (c1 - (1 : Int32))) fun v22 => rt v22) (bd (gR [2] 0 (some o)) fun v6 => bd (aI 0 v6 c1) fun v7 => bd (gR [2] 0 (some o)) fun v8 => bd (aI 0 v8 (c1 - (1 : Int32))) fun v9 => bd (rt ((v7 - v9).toInt64)) fun v10 => bd (gR [2] 1 (some o)) fun v11 => bd (aI 0 v11 c1) fun v12 => bd (gR [2] 1 (some o)) fun v13 => bd (aI 0 v13 (c1 - (1 : Int32))) fun v14 => bd (rt ((v12 - v14).toInt64)) fun v15 => bd (gR [2] 1 (some o)) fun v16 => bd (aI 0 v16 (c1 - (1 : Int32))) fun v17 => bd (gR [2] 0 (some o)) fun v18 => bd (aI 0 v18 (c1 - (1 : Int32))) fun v19 => bd (F_X10_rounded ((v17.toInt64 * v10) + (v15 * (x1 - v19).toInt64)) v10) fun c20 => rt c20.toInt32))
set_option maxHeartbeats 4000000 in
set_option maxRecDepth 100000 in
theorem t_X3_between (l : Launch) (D : va_G) (cy : Nat → ClassId) (z : Nat) (o : Nat) (x1 : Int32) : MT l D cy z yX3_between cX3_between 7 (some .int) 2 68 (F_X3_between o x1) vI [.ref o, .int x1] := by
  refine m_enter [(0, .ref o), (1, .int x1)] (by decide) (by first | rfl | simp [lv_args, m_cat, m_ci, m_cl, m_cf, m_cd, m_cr]) (by first | exact Nat.le_of_ble_eq_true rfl | simp [lg_sl, m_cat, m_ci, m_cl, m_cf, m_cd, m_cr]) ?_
  intro p e R s m args below meth c ws0 wsf rr cx hE ws H locs cells slots ls hl hH hF
  obtain ⟨hx, hb, hr, hml, hown, hk, hz, hlocks, hnm, hfr, hlo⟩ := id cx
  unfold F_X3_between at hF
  refine lv_aload_n hx hb dX3_between_0 rfl (lv_at hl 0 rfl) ?_
  refine lv_iload_n hx hb dX3_between_1 rfl (lv_at hl 1 rfl) ?_
  refine m_cVI hx hb hml hown hk hH hE.le hz (F := fun q2 => F_X3_howManyUpTo q2.1 x1) (C := RX3) (T := TX3) (N := 3) rfl (As := [.int x1]) (rest := []) (fun o => t_X3_howManyUpTo l D cy z o x1) hF wd_429 wd_431 wd_35 wd_432 wd_6 yn_X3_howManyUpTo ⟨Nat.le_trans (by decide) hfr, Nat.le_trans (by decide) hlo⟩ hl.1 (by first | exact Nat.le_of_ble_eq_true rfl | simp [m_cat, m_ci, m_cl, m_cf, m_cd, m_cr]) rfl dX3_between_2 (fun c1 ws H locs cells slots hH hF => ?_)
  refine lv_istore_n (lv' := [(2, .int c1), (0, .ref o), (1, .int x1)]) hx hb dX3_between_5 rfl hl (by decide) (by first | rfl | simp [m_cat, m_ci, m_cl, m_cf, m_cd, m_cr]) (fun ls hl => ?_)
  refine lv_iload_n hx hb dX3_between_6 rfl (lv_at hl 0 rfl) ?_
  refine lv_if_ne (tgt := 17) hx hb dX3_between_7 (by decide) (fun hc2 => ?_) (fun hc2 => ?_)
  · have hF := bq_f hc2 hF
    refine lv_iload_n hx hb dX3_between_17 rfl (lv_at hl 0 rfl) ?_
    refine lv_aload_n hx hb dX3_between_18 rfl (lv_at hl 1 rfl) ?_
    refine m_gI hx hb hown hk hH hF fk_RX3_size lk_RX3_18 dX3_between_19 (fun v4 hF => ?_)
    refine lv_icmp_ne (tgt := 34) hx hb dX3_between_22 (by decide) (fun hc4 => ?_) (fun hc4 => ?_)
    · have hF := bq_f hc4 hF
      refine lv_aload_n hx hb dX3_between_34 rfl (lv_at hl 1 rfl) ?_
      refine m_gR hx hb hown hk hH hF fk_RX3_counts lk_RX3_9 dX3_between_35 (fun v6 hF => ?_)
      refine lv_iload_n hx hb dX3_between_38 rfl (lv_at hl 0 rfl) ?_
      refine m_aI0 hx hb hk hH hF dX3_between_39 (fun v7 hF => ?_)
      refine lv_aload_n hx hb dX3_between_40 rfl (lv_at hl 1 rfl) ?_
      refine m_gR hx hb hown hk hH hF fk_RX3_counts lk_RX3_9 dX3_between_41 (fun v8 hF => ?_)
      refine lv_iload_n hx hb dX3_between_44 rfl (lv_at hl 0 rfl) ?_
      refine lv_iconst (v := (1)) hx hb dX3_between_45 (by decide) ?_
      refine lv_isub hx hb dX3_between_46 ?_
      refine m_aI0 hx hb hk hH hF dX3_between_47 (fun v9 hF => ?_)
      refine lv_isub hx hb dX3_between_48 ?_
      refine lv_i2l hx hb dX3_between_49 rfl ?_
      refine lv_topl (fun v10 hv10 => ?_)
      have hF := rt_t hv10 hF
      refine lv_lstore_n (lv' := [(3, .long v10), (2, .int c1), (0, .ref o), (1, .int x1)]) hx hb dX3_between_50 rfl hl (by decide) (by first | rfl | simp [m_cat, m_ci, m_cl, m_cf, m_cd, m_cr]) (fun ls hl => ?_)
      refine lv_aload_n hx hb dX3_between_51 rfl (lv_at hl 2 rfl) ?_
      refine m_gR hx hb hown hk hH hF fk_RX3_values lk_RX3_15 dX3_between_52 (fun v11 hF => ?_)
      refine lv_iload_n hx hb dX3_between_55 rfl (lv_at hl 1 rfl) ?_
      refine m_aI0 hx hb hk hH hF dX3_between_56 (fun v12 hF => ?_)
      refine lv_aload_n hx hb dX3_between_57 rfl (lv_at hl 2 rfl) ?_
      refine m_gR hx hb hown hk hH hF fk_RX3_values lk_RX3_15 dX3_between_58 (fun v13 hF => ?_)
      refine lv_iload_n hx hb dX3_between_61 rfl (lv_at hl 1 rfl) ?_
      refine lv_iconst (v := (1)) hx hb dX3_between_62 (by decide) ?_
      refine lv_isub hx hb dX3_between_63 ?_
      refine m_aI0 hx hb hk hH hF dX3_between_64 (fun v14 hF => ?_)
      refine lv_isub hx hb dX3_between_65 ?_
      refine lv_i2l hx hb dX3_between_66 rfl ?_
      refine lv_topl (fun v15 hv15 => ?_)
      have hF := rt_t hv15 hF
      refine lv_lstore (lv' := [(5, .long v15), (3, .long v10), (2, .int c1), (0, .ref o), (1, .int x1)]) hx hb dX3_between_67 hl (by decide) (by first | rfl | simp [m_cat, m_ci, m_cl, m_cf, m_cd, m_cr]) (fun ls hl => ?_)
      refine lv_aload_n hx hb dX3_between_69 rfl (lv_at hl 3 rfl) ?_
      refine m_gR hx hb hown hk hH hF fk_RX3_values lk_RX3_15 dX3_between_70 (fun v16 hF => ?_)
      refine lv_iload_n hx hb dX3_between_73 rfl (lv_at hl 2 rfl) ?_
      refine lv_iconst (v := (1)) hx hb dX3_between_74 (by decide) ?_
      refine lv_isub hx hb dX3_between_75 ?_
      refine m_aI0 hx hb hk hH hF dX3_between_76 (fun v17 hF => ?_)
      refine lv_i2l hx hb dX3_between_77 rfl ?_
      refine lv_lload_n hx hb dX3_between_78 rfl (lv_at hl 1 rfl) ?_
      refine lv_lmul hx hb dX3_between_79 ?_
      refine lv_lload hx hb dX3_between_80 (lv_at hl 0 rfl) ?_
      refine lv_iload_n hx hb dX3_between_82 rfl (lv_at hl 4 rfl) ?_
      refine lv_aload_n hx hb dX3_between_83 rfl (lv_at hl 3 rfl) ?_
      refine m_gR hx hb hown hk hH hF fk_RX3_counts lk_RX3_9 dX3_between_84 (fun v18 hF => ?_)
      refine lv_iload_n hx hb dX3_between_87 rfl (lv_at hl 2 rfl) ?_
      refine lv_iconst (v := (1)) hx hb dX3_between_88 (by decide) ?_
      refine lv_isub hx hb dX3_between_89 ?_
      refine m_aI0 hx hb hk hH hF dX3_between_90 (fun v19 hF => ?_)
      refine lv_isub hx hb dX3_between_91 ?_
      refine lv_i2l hx hb dX3_between_92 rfl ?_
      refine lv_lmul hx hb dX3_between_93 ?_
      refine lv_ladd hx hb dX3_between_94 ?_
      refine lv_lload_n hx hb dX3_between_95 rfl (lv_at hl 1 rfl) ?_
      refine m_cSNL hx hb hml hown hk hH hE.le hz (As := [.long ((v17.toInt64 * v10) + (v15 * (x1 - v19).toInt64)), .long v10]) (rest := []) (t_X10_rounded l D cy z ((v17.toInt64 * v10) + (v15 * (x1 - v19).toInt64)) v10) hF ⟨_, wd_433⟩ wd_328 wd_33 wd_329 yn_X10_rounded ⟨Nat.le_trans (by decide) hfr, Nat.le_trans (by decide) hlo⟩ hl.1 (by first | exact Nat.le_of_ble_eq_true rfl | simp [m_cat, m_ci, m_cl, m_cf, m_cd, m_cr]) rfl dX3_between_96 (fun c20 ws H locs cells slots hH hF => ?_)
      refine lv_l2i hx hb dX3_between_99 rfl ?_
      exact m_iret hx hb hr hlocks hH hE hF rfl dX3_between_100
    · have hF := bq_t hc4 hF
      refine lv_aload_n hx hb dX3_between_25 rfl (lv_at hl 1 rfl) ?_
      refine m_gR hx hb hown hk hH hF fk_RX3_values lk_RX3_15 dX3_between_26 (fun v21 hF => ?_)
      refine lv_iload_n hx hb dX3_between_29 rfl (lv_at hl 0 rfl) ?_
      refine lv_iconst (v := (1)) hx hb dX3_between_30 (by decide) ?_
      refine lv_isub hx hb dX3_between_31 ?_
      refine m_aI0 hx hb hk hH hF dX3_between_32 (fun v22 hF => ?_)
      exact m_iret hx hb hr hlocks hH hE hF rfl dX3_between_33
  · have hF := bq_t hc2 hF
    refine lv_aload_n hx hb dX3_between_10 rfl (lv_at hl 1 rfl) ?_
    refine m_gR hx hb hown hk hH hF fk_RX3_values lk_RX3_15 dX3_between_11 (fun v23 hF => ?_)
    refine lv_iconst (v := (0)) hx hb dX3_between_14 (by decide) ?_
    refine m_aI0 hx hb hk hH hF dX3_between_15 (fun v24 hF => ?_)
    exact m_iret hx hb hr hlocks hH hE hF rfl dX3_between_16

def F_X5_workedOut (o : Nat) (x1 : Int32) : St (Int32) :=
  bd (gR [4] 4 (some o)) fun v1 => bd (dr [2] v1) fun q3 => bd (F_X3_between q3.1 x1) fun c2 => rt c2
set_option maxHeartbeats 4000000 in
set_option maxRecDepth 100000 in
theorem t_X5_workedOut (l : Launch) (D : va_G) (cy : Nat → ClassId) (z : Nat) (o : Nat) (x1 : Int32) : MT l D cy z yX5_workedOut cX5_workedOut 2 (some .int) 3 94 (F_X5_workedOut o x1) vI [.ref o, .int x1] := by
  refine m_enter [(0, .ref o), (1, .int x1)] (by decide) (by first | rfl | simp [lv_args, m_cat, m_ci, m_cl, m_cf, m_cd, m_cr]) (by first | exact Nat.le_of_ble_eq_true rfl | simp [lg_sl, m_cat, m_ci, m_cl, m_cf, m_cd, m_cr]) ?_
  intro p e R s m args below meth c ws0 wsf rr cx hE ws H locs cells slots ls hl hH hF
  obtain ⟨hx, hb, hr, hml, hown, hk, hz, hlocks, hnm, hfr, hlo⟩ := id cx
  unfold F_X5_workedOut at hF
  refine lv_aload_n hx hb dX5_workedOut_0 rfl (lv_at hl 0 rfl) ?_
  refine m_gR hx hb hown hk hH hF fk_RX5_knots lk_RX5_9 dX5_workedOut_1 (fun v1 hF => ?_)
  refine lv_iload_n hx hb dX5_workedOut_4 rfl (lv_at hl 1 rfl) ?_
  refine m_cVI hx hb hml hown hk hH hE.le hz (F := fun q3 => F_X3_between q3.1 x1) (C := RX3) (T := TX3) (N := 3) rfl (As := [.int x1]) (rest := []) (fun o => t_X3_between l D cy z o x1) hF wd_425 wd_426 wd_35 wd_428 wd_427 yn_X3_between ⟨Nat.le_trans (by decide) hfr, Nat.le_trans (by decide) hlo⟩ hl.1 (by first | exact Nat.le_of_ble_eq_true rfl | simp [m_cat, m_ci, m_cl, m_cf, m_cd, m_cr]) rfl dX5_workedOut_5 (fun c2 ws H locs cells slots hH hF => ?_)
  exact m_iret hx hb hr hlocks hH hE hF rfl dX5_workedOut_8

def F_X10_nearestCount (x0 : Int32) : St (Int32) :=
  rt (if (0 : Int32) < (if x0 < (4095 : Int32) then x0 else (4095 : Int32)) then (if x0 < (4095 : Int32) then x0 else (4095 : Int32)) else (0 : Int32))
set_option maxHeartbeats 4000000 in
set_option maxRecDepth 100000 in
theorem t_X10_nearestCount (l : Launch) (D : va_G) (cy : Nat → ClassId) (z : Nat) (x0 : Int32) : MT l D cy z yX10_nearestCount cX10_nearestCount 1 (some .int) 1 40 (F_X10_nearestCount x0) vI [.int x0] := by
  refine m_enter [(0, .int x0)] (by decide) (by first | rfl | simp [lv_args, m_cat, m_ci, m_cl, m_cf, m_cd, m_cr]) (by first | exact Nat.le_of_ble_eq_true rfl | simp [lg_sl, m_cat, m_ci, m_cl, m_cf, m_cd, m_cr]) ?_
  intro p e R s m args below meth c ws0 wsf rr cx hE ws H locs cells slots ls hl hH hF
  obtain ⟨hx, hb, hr, hml, hown, hk, hz, hlocks, hnm, hfr, hlo⟩ := id cx
  unfold F_X10_nearestCount at hF
  refine lv_iconst (v := (0)) hx hb dX10_nearestCount_0 (by decide) ?_
  refine lv_sipush (v := (4095)) hx hb dX10_nearestCount_1 (by decide) ?_
  refine lv_iload_n hx hb dX10_nearestCount_4 rfl (lv_at hl 0 rfl) ?_
  refine va_mmin hx hb (hml.trans hl.1.symm) hown (hk.wd wd_447 args) (hk.wd wd_439 args) (hk.wd wd_42 args) (hk.wd wd_440 args) (Nat.le_trans (by decide) hfr) (Nat.le_trans (m := 40) (by first | exact Nat.le_of_ble_eq_true rfl | simp [m_cat, m_ci, m_cl, m_cf, m_cd, m_cr]) (Nat.le_trans (by decide) hlo)) (m_cells hH hE.le hF).1 (m_cells hH hE.le hF).2 dX10_nearestCount_5 ?_
  refine va_mmax hx hb (hml.trans hl.1.symm) hown (hk.wd wd_448 args) (hk.wd wd_442 args) (hk.wd wd_42 args) (hk.wd wd_443 args) (Nat.le_trans (by decide) hfr) (Nat.le_trans (m := 40) (by first | exact Nat.le_of_ble_eq_true rfl | simp [m_cat, m_ci, m_cl, m_cf, m_cd, m_cr]) (Nat.le_trans (by decide) hlo)) (m_cells hH hE.le hF).1 (m_cells hH hE.le hF).2 dX10_nearestCount_8 ?_
  exact m_iret hx hb hr hlocks hH hE hF rfl dX10_nearestCount_11

def j_X7_workedOut_22 (fat : Nat → Int32 → St (Int32)) (x0 : Nat) (s0 : Option Nat) (s1 : Int32) : St (Int32) :=
  bd (dr [3, 4, 6] s0) fun q5 => bd (fat q5.1 s1) fun c4 => bd (gI [6] 4 (some x0)) fun v6 => bd (rt v6) fun w7 => br (w7 = (2)) (bd (gI [6] 7 (some x0)) fun v8 => bd (gI [6] 8 (some x0)) fun v9 => rt (if v8 < (if c4 < v9 then c4 else v9) then (if c4 < v9 then c4 else v9) else v8)) (br (w7 = (3)) (bd (gI [6] 7 (some x0)) fun v10 => br (c4 < v10) (rt c4) (bd (gI [6] 8 (some x0)) fun v12 => br (v12 < c4) (rt c4) (bd (gI [6] 9 (some x0)) fun v14 => rt v14))) (br (w7 = (4)) (bd (gR [6] 6 (some x0)) fun v15 => br (v15 = none) (rt c4) (bd (gR [6] 6 (some x0)) fun v17 => bd (F_X10_nearestCount c4) fun c18 => bd (dr [3, 4, 6] v17) fun q20 => bd (fat q20.1 c18) fun c19 => rt c19)) (br (w7 = (5)) (bd (gI [6] 7 (some x0)) fun v21 => bd (gI [6] 8 (some x0)) fun v22 => bd (F_X10_rounded (c4.toInt64 * v21.toInt64) v22.toInt64) fun c23 => bd (gI [6] 9 (some x0)) fun v24 => bd (F_X10_nearestValue (c23 + v24.toInt64)) fun c25 => rt c25) (rt c4))))
def F_X7_workedOut (fat : Nat → Int32 → St (Int32)) (o : Nat) (x1 : Int32) : St (Int32) :=
  bd (gR [6] 5 (some o)) fun v1 => bd (gI [6] 4 (some o)) fun v2 => br (v2 = (6 : Int32)) (j_X7_workedOut_22 fat o v1 ((4095 : Int32) - x1)) (j_X7_workedOut_22 fat o v1 x1)
set_option maxHeartbeats 4000000 in
set_option maxRecDepth 100000 in
theorem w_X7_workedOut_22 {l : Launch} {D : va_G} {cy : Nat → ClassId} {z : Nat} {p : Program} {e : Env} {R : Room} {s : State} {m : MethodId} {args : Array Value} {below : List Frame} {meth : Method} {c : Code} {ws0 wsf : WS} {rr : Int32} (fat : Nat → Int32 → St (Int32)) {fa la : Nat} (hat : ∀ (o : Nat) (x0 : Int32), MT l D cy z yX1_at cX1_at 2 (some .int) fa la (fat o x0) vI [.ref o, .int x0]) (cx : Cx D cy z RX7 cX7_workedOut 3 (some .int) (fa + 4) (la + 120) "workedOut" p R s m meth c) (hE : AC ws0 wsf R.cells R.slots) (x0 : Nat) (s0 : Option Nat) (s1 : Int32) : At_ l D cy z p e R s m args below meth c ws0 wsf vI rr 3 22 [(0, .ref x0)] [.int s1, va_rf s0] (j_X7_workedOut_22 fat x0 s0 s1) := by
  intro ws H locs cells slots ls hl hH hF
  obtain ⟨hx, hb, hr, hml, hown, hk, hz, hlocks, hnm, hfr, hlo⟩ := id cx
  unfold j_X7_workedOut_22 at hF
  refine m_cUI hx hb hml hown hk hH hE.le hz (x := yX1_at) (owner := "CurveFoundry$Curve") (y := (fun _ => yX1_at)) (bytes := (fun _ => cX1_at)) (maxL := (fun _ => 2)) (fr := (fun _ => fa)) (lo := (fun _ => la)) (F := fun q5 => fat q5.1 s1) (As := [.int s1]) (rest := []) (fun o => m_c3 (hat o s1) (hat o s1) (hat o s1)) hF wd_437 wd_399 (va_Decl.of (hk.wd wd_398 args) (hk.wd wd_403 args)) (m_c3 ⟨_, rfl, wd_400, wd_398, wd_39, wd_403, Nat.le_trans (by (first | omega | (simp [vd]; done) | (simp [vd]; omega))) hfr, Nat.le_trans (by (first | omega | (simp [vd]; done) | (simp [vd]; omega))) hlo⟩ ⟨_, rfl, wd_401, wd_398, wd_39, wd_403, Nat.le_trans (by (first | omega | (simp [vd]; done) | (simp [vd]; omega))) hfr, Nat.le_trans (by (first | omega | (simp [vd]; done) | (simp [vd]; omega))) hlo⟩ ⟨_, rfl, wd_402, wd_398, wd_39, wd_403, Nat.le_trans (by (first | omega | (simp [vd]; done) | (simp [vd]; omega))) hfr, Nat.le_trans (by (first | omega | (simp [vd]; done) | (simp [vd]; omega))) hlo⟩) yc_at hl.1 (by first | exact Nat.le_of_ble_eq_true rfl | simp [m_cat, m_ci, m_cl, m_cf, m_cd, m_cr]) rfl dX7_workedOut_22 (fun c4 ws H locs cells slots hH hF => ?_)
  refine lv_istore_n (lv' := [(2, .int c4), (0, .ref x0)]) hx hb dX7_workedOut_25 rfl hl (by decide) (by first | rfl | simp [m_cat, m_ci, m_cl, m_cf, m_cd, m_cr]) (fun ls hl => ?_)
  refine lv_aload_n hx hb dX7_workedOut_26 rfl (lv_at hl 1 rfl) ?_
  refine m_gI hx hb hown hk hH hF fk_RX7_how lk_RX7_13 dX7_workedOut_27 (fun v6 hF => ?_)
  refine lv_topi (fun w7 hw7 => ?_)
  have hF := rt_t hw7 hF
  by_cases hkw7_2 : w7 = (2)
  · have hF := bq_t hkw7_2 hF
    refine lv_tableIn (off := 30) (tgt := 60) hx hb dX7_workedOut_30 (by rw [hkw7_2]; decide) (by rw [hkw7_2]; decide) (by rw [hkw7_2]; decide) (by decide) ?_
    refine lv_aload_n hx hb dX7_workedOut_60 rfl (lv_at hl 1 rfl) ?_
    refine m_gI hx hb hown hk hH hF fk_RX7_first lk_RX7_25 dX7_workedOut_61 (fun v8 hF => ?_)
    refine lv_aload_n hx hb dX7_workedOut_64 rfl (lv_at hl 1 rfl) ?_
    refine m_gI hx hb hown hk hH hF fk_RX7_second lk_RX7_28 dX7_workedOut_65 (fun v9 hF => ?_)
    refine lv_iload_n hx hb dX7_workedOut_68 rfl (lv_at hl 0 rfl) ?_
    refine va_mmin hx hb (hml.trans hl.1.symm) hown (hk.wd wd_438 args) (hk.wd wd_439 args) (hk.wd wd_42 args) (hk.wd wd_440 args) (Nat.le_trans (by (first | omega | (simp [vd]; done) | (simp [vd]; omega))) hfr) (Nat.le_trans (m := 40) (by first | exact Nat.le_of_ble_eq_true rfl | simp [m_cat, m_ci, m_cl, m_cf, m_cd, m_cr]) (Nat.le_trans (by (first | omega | (simp [vd]; done) | (simp [vd]; omega))) hlo)) (m_cells hH hE.le hF).1 (m_cells hH hE.le hF).2 dX7_workedOut_69 ?_
    refine va_mmax hx hb (hml.trans hl.1.symm) hown (hk.wd wd_441 args) (hk.wd wd_442 args) (hk.wd wd_42 args) (hk.wd wd_443 args) (Nat.le_trans (by (first | omega | (simp [vd]; done) | (simp [vd]; omega))) hfr) (Nat.le_trans (m := 40) (by first | exact Nat.le_of_ble_eq_true rfl | simp [m_cat, m_ci, m_cl, m_cf, m_cd, m_cr]) (Nat.le_trans (by (first | omega | (simp [vd]; done) | (simp [vd]; omega))) hlo)) (m_cells hH hE.le hF).1 (m_cells hH hE.le hF).2 dX7_workedOut_72 ?_
    exact m_iret hx hb hr hlocks hH hE hF rfl dX7_workedOut_75
  · have hF := bq_f hkw7_2 hF
    by_cases hkw7_3 : w7 = (3)
    · have hF := bq_t hkw7_3 hF
      refine lv_tableIn (off := 46) (tgt := 76) hx hb dX7_workedOut_30 (by rw [hkw7_3]; decide) (by rw [hkw7_3]; decide) (by rw [hkw7_3]; decide) (by decide) ?_
      refine lv_iload_n hx hb dX7_workedOut_76 rfl (lv_at hl 0 rfl) ?_
      refine lv_aload_n hx hb dX7_workedOut_77 rfl (lv_at hl 1 rfl) ?_
      refine m_gI hx hb hown hk hH hF fk_RX7_first lk_RX7_25 dX7_workedOut_78 (fun v10 hF => ?_)
      refine lv_icmp_lt (tgt := 99) hx hb dX7_workedOut_81 (by decide) (fun hc10 => ?_) (fun hc10 => ?_)
      · have hF := bq_t hc10 hF
        refine lv_iload_n hx hb dX7_workedOut_99 rfl (lv_at hl 0 rfl) ?_
        exact m_iret hx hb hr hlocks hH hE hF rfl dX7_workedOut_100
      · have hF := bq_f hc10 hF
        refine lv_iload_n hx hb dX7_workedOut_84 rfl (lv_at hl 0 rfl) ?_
        refine lv_aload_n hx hb dX7_workedOut_85 rfl (lv_at hl 1 rfl) ?_
        refine m_gI hx hb hown hk hH hF fk_RX7_second lk_RX7_28 dX7_workedOut_86 (fun v12 hF => ?_)
        refine lv_icmp_gt (tgt := 99) hx hb dX7_workedOut_89 (by decide) (fun hc12 => ?_) (fun hc12 => ?_)
        · have hF := bq_t hc12 hF
          refine lv_iload_n hx hb dX7_workedOut_99 rfl (lv_at hl 0 rfl) ?_
          exact m_iret hx hb hr hlocks hH hE hF rfl dX7_workedOut_100
        · have hF := bq_f hc12 hF
          refine lv_aload_n hx hb dX7_workedOut_92 rfl (lv_at hl 1 rfl) ?_
          refine m_gI hx hb hown hk hH hF fk_RX7_third lk_RX7_31 dX7_workedOut_93 (fun v14 hF => ?_)
          refine lv_goto (tgt := 100) hx hb dX7_workedOut_96 (by decide) ?_
          exact m_iret hx hb hr hlocks hH hE hF rfl dX7_workedOut_100
    · have hF := bq_f hkw7_3 hF
      by_cases hkw7_4 : w7 = (4)
      · have hF := bq_t hkw7_4 hF
        refine lv_tableIn (off := 71) (tgt := 101) hx hb dX7_workedOut_30 (by rw [hkw7_4]; decide) (by rw [hkw7_4]; decide) (by rw [hkw7_4]; decide) (by decide) ?_
        refine lv_aload_n hx hb dX7_workedOut_101 rfl (lv_at hl 1 rfl) ?_
        refine m_gR hx hb hown hk hH hF fk_RX7_outer lk_RX7_22 dX7_workedOut_102 (fun v15 hF => ?_)
        refine m_ifnonnull (tgt := 112) hx hb dX7_workedOut_105 (by decide) (fun hc15 => ?_) (fun hc15 => ?_)
        · have hF := bq_f hc15 hF
          refine lv_aload_n hx hb dX7_workedOut_112 rfl (lv_at hl 1 rfl) ?_
          refine m_gR hx hb hown hk hH hF fk_RX7_outer lk_RX7_22 dX7_workedOut_113 (fun v17 hF => ?_)
          refine lv_iload_n hx hb dX7_workedOut_116 rfl (lv_at hl 0 rfl) ?_
          refine m_cSNI hx hb hml hown hk hH hE.le hz (As := [.int c4]) (rest := [va_rf v17]) (t_X10_nearestCount l D cy z c4) hF ⟨_, wd_444⟩ wd_445 wd_33 wd_446 yn_X10_nearestCount ⟨Nat.le_trans (by (first | omega | (simp [vd]; done) | (simp [vd]; omega))) hfr, Nat.le_trans (by (first | omega | (simp [vd]; done) | (simp [vd]; omega))) hlo⟩ hl.1 (by first | exact Nat.le_of_ble_eq_true rfl | simp [m_cat, m_ci, m_cl, m_cf, m_cd, m_cr]) rfl dX7_workedOut_117 (fun c18 ws H locs cells slots hH hF => ?_)
          refine m_cUI hx hb hml hown hk hH hE.le hz (x := yX1_at) (owner := "CurveFoundry$Curve") (y := (fun _ => yX1_at)) (bytes := (fun _ => cX1_at)) (maxL := (fun _ => 2)) (fr := (fun _ => fa)) (lo := (fun _ => la)) (F := fun q20 => fat q20.1 c18) (As := [.int c18]) (rest := []) (fun o => m_c3 (hat o c18) (hat o c18) (hat o c18)) hF wd_437 wd_399 (va_Decl.of (hk.wd wd_398 args) (hk.wd wd_403 args)) (m_c3 ⟨_, rfl, wd_400, wd_398, wd_39, wd_403, Nat.le_trans (by (first | omega | (simp [vd]; done) | (simp [vd]; omega))) hfr, Nat.le_trans (by (first | omega | (simp [vd]; done) | (simp [vd]; omega))) hlo⟩ ⟨_, rfl, wd_401, wd_398, wd_39, wd_403, Nat.le_trans (by (first | omega | (simp [vd]; done) | (simp [vd]; omega))) hfr, Nat.le_trans (by (first | omega | (simp [vd]; done) | (simp [vd]; omega))) hlo⟩ ⟨_, rfl, wd_402, wd_398, wd_39, wd_403, Nat.le_trans (by (first | omega | (simp [vd]; done) | (simp [vd]; omega))) hfr, Nat.le_trans (by (first | omega | (simp [vd]; done) | (simp [vd]; omega))) hlo⟩) yc_at hl.1 (by first | exact Nat.le_of_ble_eq_true rfl | simp [m_cat, m_ci, m_cl, m_cf, m_cd, m_cr]) rfl dX7_workedOut_120 (fun c19 ws H locs cells slots hH hF => ?_)
          exact m_iret hx hb hr hlocks hH hE hF rfl dX7_workedOut_123
        · have hF := bq_t hc15 hF
          refine lv_iload_n hx hb dX7_workedOut_108 rfl (lv_at hl 0 rfl) ?_
          refine lv_goto (tgt := 123) hx hb dX7_workedOut_109 (by decide) ?_
          exact m_iret hx hb hr hlocks hH hE hF rfl dX7_workedOut_123
      · have hF := bq_f hkw7_4 hF
        by_cases hkw7_5 : w7 = (5)
        · have hF := bq_t hkw7_5 hF
          refine lv_tableIn (off := 94) (tgt := 124) hx hb dX7_workedOut_30 (by rw [hkw7_5]; decide) (by rw [hkw7_5]; decide) (by rw [hkw7_5]; decide) (by decide) ?_
          refine lv_iload_n hx hb dX7_workedOut_124 rfl (lv_at hl 0 rfl) ?_
          refine lv_i2l hx hb dX7_workedOut_125 rfl ?_
          refine lv_aload_n hx hb dX7_workedOut_126 rfl (lv_at hl 1 rfl) ?_
          refine m_gI hx hb hown hk hH hF fk_RX7_first lk_RX7_25 dX7_workedOut_127 (fun v21 hF => ?_)
          refine lv_i2l hx hb dX7_workedOut_130 rfl ?_
          refine lv_lmul hx hb dX7_workedOut_131 ?_
          refine lv_aload_n hx hb dX7_workedOut_132 rfl (lv_at hl 1 rfl) ?_
          refine m_gI hx hb hown hk hH hF fk_RX7_second lk_RX7_28 dX7_workedOut_133 (fun v22 hF => ?_)
          refine lv_i2l hx hb dX7_workedOut_136 rfl ?_
          refine m_cSNL hx hb hml hown hk hH hE.le hz (As := [.long (c4.toInt64 * v21.toInt64), .long v22.toInt64]) (rest := []) (t_X10_rounded l D cy z (c4.toInt64 * v21.toInt64) v22.toInt64) hF ⟨_, wd_449⟩ wd_328 wd_33 wd_329 yn_X10_rounded ⟨Nat.le_trans (by (first | omega | (simp [vd]; done) | (simp [vd]; omega))) hfr, Nat.le_trans (by (first | omega | (simp [vd]; done) | (simp [vd]; omega))) hlo⟩ hl.1 (by first | exact Nat.le_of_ble_eq_true rfl | simp [m_cat, m_ci, m_cl, m_cf, m_cd, m_cr]) rfl dX7_workedOut_137 (fun c23 ws H locs cells slots hH hF => ?_)
          refine lv_aload_n hx hb dX7_workedOut_140 rfl (lv_at hl 1 rfl) ?_
          refine m_gI hx hb hown hk hH hF fk_RX7_third lk_RX7_31 dX7_workedOut_141 (fun v24 hF => ?_)
          refine lv_i2l hx hb dX7_workedOut_144 rfl ?_
          refine lv_ladd hx hb dX7_workedOut_145 ?_
          refine m_cSNI hx hb hml hown hk hH hE.le hz (As := [.long (c23 + v24.toInt64)]) (rest := []) (t_X10_nearestValue l D cy z (c23 + v24.toInt64)) hF ⟨_, wd_450⟩ wd_412 wd_33 wd_413 yn_X10_nearestValue ⟨Nat.le_trans (by (first | omega | (simp [vd]; done) | (simp [vd]; omega))) hfr, Nat.le_trans (by (first | omega | (simp [vd]; done) | (simp [vd]; omega))) hlo⟩ hl.1 (by first | exact Nat.le_of_ble_eq_true rfl | simp [m_cat, m_ci, m_cl, m_cf, m_cd, m_cr]) rfl dX7_workedOut_146 (fun c25 ws H locs cells slots hH hF => ?_)
          exact m_iret hx hb hr hlocks hH hE hF rfl dX7_workedOut_149
        · have hF := bq_f hkw7_5 hF
          refine lv_tableOut (tgt := 150) hx hb dX7_workedOut_30 (by have g2 := lv_neT hkw7_2 (a := 2) (by decide); have g3 := lv_neT hkw7_3 (a := 3) (by decide); have g4 := lv_neT hkw7_4 (a := 4) (by decide); have g5 := lv_neT hkw7_5 (a := 5) (by decide); omega) (by decide) ?_
          refine lv_iload_n hx hb dX7_workedOut_150 rfl (lv_at hl 0 rfl) ?_
          exact m_iret hx hb hr hlocks hH hE hF rfl dX7_workedOut_151
set_option maxHeartbeats 4000000 in
set_option maxRecDepth 100000 in
theorem t_X7_workedOut (l : Launch) (D : va_G) (cy : Nat → ClassId) (z : Nat) (fat : Nat → Int32 → St (Int32)) {fa la : Nat} (hat : ∀ (o : Nat) (x0 : Int32), MT l D cy z yX1_at cX1_at 2 (some .int) fa la (fat o x0) vI [.ref o, .int x0]) (o : Nat) (x1 : Int32) : MT l D cy z yX7_workedOut cX7_workedOut 3 (some .int) (fa + 4) (la + 120) (F_X7_workedOut fat o x1) vI [.ref o, .int x1] := by
  refine m_enter [(0, .ref o), (1, .int x1)] (by decide) (by first | rfl | simp [lv_args, m_cat, m_ci, m_cl, m_cf, m_cd, m_cr]) (by first | exact Nat.le_of_ble_eq_true rfl | simp [lg_sl, m_cat, m_ci, m_cl, m_cf, m_cd, m_cr]) ?_
  intro p e R s m args below meth c ws0 wsf rr cx hE ws H locs cells slots ls hl hH hF
  obtain ⟨hx, hb, hr, hml, hown, hk, hz, hlocks, hnm, hfr, hlo⟩ := id cx
  unfold F_X7_workedOut at hF
  refine lv_aload_n hx hb dX7_workedOut_0 rfl (lv_at hl 0 rfl) ?_
  refine m_gR hx hb hown hk hH hF fk_RX7_of lk_RX7_18 dX7_workedOut_1 (fun v1 hF => ?_)
  refine lv_aload_n hx hb dX7_workedOut_4 rfl (lv_at hl 0 rfl) ?_
  refine m_gI hx hb hown hk hH hF fk_RX7_how lk_RX7_13 dX7_workedOut_5 (fun v2 hF => ?_)
  refine lv_bipush (v := (6)) hx hb dX7_workedOut_8 (by decide) ?_
  refine lv_icmp_ne (tgt := 21) hx hb dX7_workedOut_10 (by decide) (fun hc2 => ?_) (fun hc2 => ?_)
  · have hF := bq_f hc2 hF
    refine lv_iload_n hx hb dX7_workedOut_21 rfl (lv_at hl 1 rfl) ?_
    exact w_X7_workedOut_22 fat hat cx hE o v1 x1 _ _ _ _ _ _ (lv_sub hl [0] rfl) hH hF
  · have hF := bq_t hc2 hF
    refine lv_sipush (v := (4095)) hx hb dX7_workedOut_13 (by decide) ?_
    refine lv_iload_n hx hb dX7_workedOut_16 rfl (lv_at hl 1 rfl) ?_
    refine lv_isub hx hb dX7_workedOut_17 ?_
    refine lv_goto (tgt := 22) hx hb dX7_workedOut_18 (by decide) ?_
    exact w_X7_workedOut_22 fat hat cx hE o v1 ((4095 : Int32) - x1) _ _ _ _ _ _ (lv_sub hl [0] rfl) hH hF

def F_X1_at : Nat → Nat → Int32 → St (Int32)
  | 0 => fun _ _ => fl
  | d + 1 => fun o x1 => bd (gR [3, 4, 6] 2 (some o)) fun v1 => br (v1 = none) (bd (dr [3, 4, 6] (some o)) fun q6 => bd (vd q6.2 (F_X4_workedOut q6.1 x1) (F_X5_workedOut q6.1 x1) (F_X7_workedOut (F_X1_at d) q6.1 x1)) fun c5 => rt c5) (bd (gR [3, 4, 6] 2 (some o)) fun v3 => bd (aI 0 v3 x1) fun v4 => rt v4)
set_option maxHeartbeats 4000000 in
set_option maxRecDepth 100000 in
theorem t_X1_at (l : Launch) (D : va_G) (cy : Nat → ClassId) (z : Nat) : ∀ (d : Nat) (o : Nat) (x1 : Int32), MT l D cy z yX1_at cX1_at 2 (some .int) (5 * d + 5) (150 * d + 300) (F_X1_at d o x1) vI [.ref o, .int x1] := by
  intro d
  induction d with
  | zero =>
    intro o x1 ws r wsf mc ms hF
    exact fl_t hF
  | succ d ih =>
    intro o x1
    refine m_enter [(0, .ref o), (1, .int x1)] (by decide) (by first | rfl | simp [lv_args, m_cat, m_ci, m_cl, m_cf, m_cd, m_cr]) (by first | exact Nat.le_of_ble_eq_true rfl | simp [lg_sl, m_cat, m_ci, m_cl, m_cf, m_cd, m_cr]) ?_
    intro p e R s m args below meth c ws0 wsf rr cx hE ws H locs cells slots ls hl hH hF
    obtain ⟨hx, hb, hr, hml, hown, hk, hz, hlocks, hnm, hfr, hlo⟩ := id cx
    rw [F_X1_at] at hF
    refine lv_aload_n hx hb dX1_at_0 rfl (lv_at hl 0 rfl) ?_
    refine m_gR hx hb hown hk hH hF fk_RX1_row lk_RX1_9 dX1_at_1 (fun v1 hF => ?_)
    refine m_ifnonnull (tgt := 15) hx hb dX1_at_4 (by decide) (fun hc1 => ?_) (fun hc1 => ?_)
    · have hF := bq_f hc1 hF
      refine lv_aload_n hx hb dX1_at_15 rfl (lv_at hl 0 rfl) ?_
      refine m_gR hx hb hown hk hH hF fk_RX1_row lk_RX1_9 dX1_at_16 (fun v3 hF => ?_)
      refine lv_iload_n hx hb dX1_at_19 rfl (lv_at hl 1 rfl) ?_
      refine m_aI0 hx hb hk hH hF dX1_at_20 (fun v4 hF => ?_)
      exact m_iret hx hb hr hlocks hH hE hF rfl dX1_at_21
    · have hF := bq_t hc1 hF
      refine lv_aload_n hx hb dX1_at_7 rfl (lv_at hl 0 rfl) ?_
      refine lv_iload_n hx hb dX1_at_8 rfl (lv_at hl 1 rfl) ?_
      refine m_cUI hx hb hml hown hk hH hE.le hz (x := ⟨"CurveFoundry$Curve", "workedOut", "(I)I"⟩) (owner := "CurveFoundry$Curve") (y := (fun ci => vd ci yX4_workedOut yX5_workedOut yX7_workedOut)) (bytes := (fun ci => vd ci cX4_workedOut cX5_workedOut cX7_workedOut)) (maxL := (fun ci => vd ci 2 2 3)) (fr := (fun ci => vd ci (2) (3) ((5 * d + 5) + 4))) (lo := (fun ci => vd ci (68) (94) ((150 * d + 300) + 120))) (F := fun q6 => vd q6.2 (F_X4_workedOut q6.1 x1) (F_X5_workedOut q6.1 x1) (F_X7_workedOut (F_X1_at d) q6.1 x1)) (As := [.int x1]) (rest := []) (fun o => m_c3 (t_X4_workedOut l D cy z o x1) (t_X5_workedOut l D cy z o x1) (t_X7_workedOut l D cy z (F_X1_at d) ih o x1)) hF wd_404 wd_406 (va_Decl.abs (hk.wd wd_405 #[])) (m_c3 ⟨_, rfl, wd_407, wd_408, wd_40, wd_409, Nat.le_trans (by (first | omega | (simp [vd]; done) | (simp [vd]; omega))) hfr, Nat.le_trans (by (first | omega | (simp [vd]; done) | (simp [vd]; omega))) hlo⟩ ⟨_, rfl, wd_422, wd_423, wd_41, wd_424, Nat.le_trans (by (first | omega | (simp [vd]; done) | (simp [vd]; omega))) hfr, Nat.le_trans (by (first | omega | (simp [vd]; done) | (simp [vd]; omega))) hlo⟩ ⟨_, rfl, wd_434, wd_435, wd_43, wd_436, Nat.le_trans (by (first | omega | (simp [vd]; done) | (simp [vd]; omega))) hfr, Nat.le_trans (by (first | omega | (simp [vd]; done) | (simp [vd]; omega))) hlo⟩) yc_workedOut hl.1 (by first | exact Nat.le_of_ble_eq_true rfl | simp [m_cat, m_ci, m_cl, m_cf, m_cd, m_cr]) rfl dX1_at_9 (fun c5 ws H locs cells slots hH hF => ?_)
      refine lv_goto (tgt := 21) hx hb dX1_at_12 (by decide) ?_
      exact m_iret hx hb hr hlocks hH hE hF rfl dX1_at_21

def F_X4_makeParts (o : Nat) : St (Unit) :=
  rt ()
set_option maxHeartbeats 4000000 in
set_option maxRecDepth 100000 in
theorem t_X4_makeParts (l : Launch) (D : va_G) (cy : Nat → ClassId) (z : Nat) (o : Nat) : MT l D cy z yX4_makeParts cX4_makeParts 1 none 0 0 (F_X4_makeParts o) vU [.ref o] := by
  refine m_enter [(0, .ref o)] (by decide) (by first | rfl | simp [lv_args, m_cat, m_ci, m_cl, m_cf, m_cd, m_cr]) (by first | exact Nat.le_of_ble_eq_true rfl | simp [lg_sl, m_cat, m_ci, m_cl, m_cf, m_cd, m_cr]) ?_
  intro p e R s m args below meth c ws0 wsf rr cx hE ws H locs cells slots ls hl hH hF
  obtain ⟨hx, hb, hr, hml, hown, hk, hz, hlocks, hnm, hfr, hlo⟩ := id cx
  unfold F_X4_makeParts at hF
  exact m_vret hx hb hr hlocks hH hE hF dX4_makeParts_0

def F_X5_makeParts (o : Nat) : St (Unit) :=
  rt ()
set_option maxHeartbeats 4000000 in
set_option maxRecDepth 100000 in
theorem t_X5_makeParts (l : Launch) (D : va_G) (cy : Nat → ClassId) (z : Nat) (o : Nat) : MT l D cy z yX5_makeParts cX5_makeParts 1 none 0 0 (F_X5_makeParts o) vU [.ref o] := by
  refine m_enter [(0, .ref o)] (by decide) (by first | rfl | simp [lv_args, m_cat, m_ci, m_cl, m_cf, m_cd, m_cr]) (by first | exact Nat.le_of_ble_eq_true rfl | simp [lg_sl, m_cat, m_ci, m_cl, m_cf, m_cd, m_cr]) ?_
  intro p e R s m args below meth c ws0 wsf rr cx hE ws H locs cells slots ls hl hH hF
  obtain ⟨hx, hb, hr, hml, hown, hk, hz, hlocks, hnm, hfr, hlo⟩ := id cx
  unfold F_X5_makeParts at hF
  exact m_vret hx hb hr hlocks hH hE hF dX5_makeParts_0

def F_X7_makeParts (fat : Nat → St (Option Nat)) (o : Nat) : St (Unit) :=
  bd (gR [6] 5 (some o)) fun v1 => bd (dr [3, 4, 6] v1) fun q3 => bd (fat q3.1) fun c2 => bd (gR [6] 6 (some o)) fun v4 => br (v4 = none) (rt ()) (bd (gR [6] 6 (some o)) fun v6 => bd (dr [3, 4, 6] v6) fun q8 => bd (fat q8.1) fun c7 => rt ())
set_option maxHeartbeats 4000000 in
set_option maxRecDepth 100000 in
theorem t_X7_makeParts (l : Launch) (D : va_G) (cy : Nat → ClassId) (z : Nat) (fat : Nat → St (Option Nat)) {fa la : Nat} (hat : ∀ (o : Nat), MT l D cy z yX1_filled cX1_filled 3 (some (.array .int)) fa la (fat o) vR [.ref o]) (o : Nat) : MT l D cy z yX7_makeParts cX7_makeParts 1 none (fa + 4) (la + 120) (F_X7_makeParts fat o) vU [.ref o] := by
  refine m_enter [(0, .ref o)] (by decide) (by first | rfl | simp [lv_args, m_cat, m_ci, m_cl, m_cf, m_cd, m_cr]) (by first | exact Nat.le_of_ble_eq_true rfl | simp [lg_sl, m_cat, m_ci, m_cl, m_cf, m_cd, m_cr]) ?_
  intro p e R s m args below meth c ws0 wsf rr cx hE ws H locs cells slots ls hl hH hF
  obtain ⟨hx, hb, hr, hml, hown, hk, hz, hlocks, hnm, hfr, hlo⟩ := id cx
  unfold F_X7_makeParts at hF
  refine lv_aload_n hx hb dX7_makeParts_0 rfl (lv_at hl 0 rfl) ?_
  refine m_gR hx hb hown hk hH hF fk_RX7_of lk_RX7_18 dX7_makeParts_1 (fun v1 hF => ?_)
  refine m_cUR hx hb hml hown hk hH hE.le hz (x := yX1_filled) (owner := "CurveFoundry$Curve") (y := (fun _ => yX1_filled)) (bytes := (fun _ => cX1_filled)) (maxL := (fun _ => 3)) (fr := (fun _ => fa)) (lo := (fun _ => la)) (F := fun q3 => fat q3.1) (As := []) (rest := []) (fun o => m_c3 (hat o) (hat o) (hat o)) hF wd_483 wd_466 (va_Decl.of (hk.wd wd_465 args) (hk.wd wd_470 args)) (m_c3 ⟨_, rfl, wd_467, wd_465, wd_39, wd_470, Nat.le_trans (by (first | omega | (simp [vd]; done) | (simp [vd]; omega))) hfr, Nat.le_trans (by (first | omega | (simp [vd]; done) | (simp [vd]; omega))) hlo⟩ ⟨_, rfl, wd_468, wd_465, wd_39, wd_470, Nat.le_trans (by (first | omega | (simp [vd]; done) | (simp [vd]; omega))) hfr, Nat.le_trans (by (first | omega | (simp [vd]; done) | (simp [vd]; omega))) hlo⟩ ⟨_, rfl, wd_469, wd_465, wd_39, wd_470, Nat.le_trans (by (first | omega | (simp [vd]; done) | (simp [vd]; omega))) hfr, Nat.le_trans (by (first | omega | (simp [vd]; done) | (simp [vd]; omega))) hlo⟩) yc_filled hl.1 (by first | exact Nat.le_of_ble_eq_true rfl | simp [m_cat, m_ci, m_cl, m_cf, m_cd, m_cr]) rfl dX7_makeParts_4 (fun c2 ws H locs cells slots hH hF => ?_)
  refine lv_pop hx hb dX7_makeParts_7 (m_cat _) ?_
  refine lv_aload_n hx hb dX7_makeParts_8 rfl (lv_at hl 0 rfl) ?_
  refine m_gR hx hb hown hk hH hF fk_RX7_outer lk_RX7_22 dX7_makeParts_9 (fun v4 hF => ?_)
  refine m_ifnull (tgt := 23) hx hb dX7_makeParts_12 (by decide) (fun hc4 => ?_) (fun hc4 => ?_)
  · have hF := bq_t hc4 hF
    exact m_vret hx hb hr hlocks hH hE hF dX7_makeParts_23
  · have hF := bq_f hc4 hF
    refine lv_aload_n hx hb dX7_makeParts_15 rfl (lv_at hl 0 rfl) ?_
    refine m_gR hx hb hown hk hH hF fk_RX7_outer lk_RX7_22 dX7_makeParts_16 (fun v6 hF => ?_)
    refine m_cUR hx hb hml hown hk hH hE.le hz (x := yX1_filled) (owner := "CurveFoundry$Curve") (y := (fun _ => yX1_filled)) (bytes := (fun _ => cX1_filled)) (maxL := (fun _ => 3)) (fr := (fun _ => fa)) (lo := (fun _ => la)) (F := fun q8 => fat q8.1) (As := []) (rest := []) (fun o => m_c3 (hat o) (hat o) (hat o)) hF wd_483 wd_466 (va_Decl.of (hk.wd wd_465 args) (hk.wd wd_470 args)) (m_c3 ⟨_, rfl, wd_467, wd_465, wd_39, wd_470, Nat.le_trans (by (first | omega | (simp [vd]; done) | (simp [vd]; omega))) hfr, Nat.le_trans (by (first | omega | (simp [vd]; done) | (simp [vd]; omega))) hlo⟩ ⟨_, rfl, wd_468, wd_465, wd_39, wd_470, Nat.le_trans (by (first | omega | (simp [vd]; done) | (simp [vd]; omega))) hfr, Nat.le_trans (by (first | omega | (simp [vd]; done) | (simp [vd]; omega))) hlo⟩ ⟨_, rfl, wd_469, wd_465, wd_39, wd_470, Nat.le_trans (by (first | omega | (simp [vd]; done) | (simp [vd]; omega))) hfr, Nat.le_trans (by (first | omega | (simp [vd]; done) | (simp [vd]; omega))) hlo⟩) yc_filled hl.1 (by first | exact Nat.le_of_ble_eq_true rfl | simp [m_cat, m_ci, m_cl, m_cf, m_cd, m_cr]) rfl dX7_makeParts_19 (fun c7 ws H locs cells slots hH hF => ?_)
    refine lv_pop hx hb dX7_makeParts_22 (m_cat _) ?_
    exact m_vret hx hb hr hlocks hH hE hF dX7_makeParts_23

def b_X1_filled_19 (x0 : Nat) (x1 : Nat) (rec : Int32 → St (Option Nat)) (k : St (Option Nat)) (x2 : Int32) : St (Option Nat) :=
  br ((4096 : Int32) ≤ x2) (k) (bd (dr [3, 4, 6] (some x0)) fun q9 => bd (vd q9.2 (F_X4_workedOut q9.1 x2) (F_X5_workedOut q9.1 x2) (F_X7_workedOut (F_X1_at 64) q9.1 x2)) fun c8 => bd (sI 0 (some x1) x2 c8) fun _ => rec (x2 + (1 : Int32)))
def l_X1_filled_19 (x0 : Nat) (x1 : Nat) (k : St (Option Nat)) : Nat → Int32 → St (Option Nat)
  | 0 => fun _ => fl
  | n + 1 => fun x2 => b_X1_filled_19 x0 x1 (l_X1_filled_19 x0 x1 k n) k x2
def F_X1_filled : Nat → Nat → St (Option Nat)
  | 0 => fun _ => fl
  | d + 1 => fun o => bd (gR [3, 4, 6] 2 (some o)) fun v1 => br (v1 = none) (bd (dr [3, 4, 6] (some o)) fun q5 => bd (vd q5.2 (F_X4_makeParts q5.1) (F_X5_makeParts q5.1) (F_X7_makeParts (F_X1_filled d) q5.1)) fun c4 => bd (nA 0 (4096 : Int32)) fun a6 => l_X1_filled_19 o a6 (bd (pV [3, 4, 6] 2 (some o) (va_rf (some a6))) fun _ => bd (gR [3, 4, 6] 2 (some o)) fun v10 => rt v10) FU (0 : Int32)) (bd (gR [3, 4, 6] 2 (some o)) fun v3 => rt v3)
set_option maxHeartbeats 4000000 in
set_option maxRecDepth 100000 in
theorem wb_X1_filled_19 {l : Launch} {D : va_G} {cy : Nat → ClassId} {z : Nat} {p : Program} {e : Env} {R : Room} {s : State} {m : MethodId} {args : Array Value} {below : List Frame} {meth : Method} {c : Code} {ws0 wsf : WS} {rr : Option Nat} {d : Nat} (cx : Cx D cy z RX1 cX1_filled 3 (some (.array .int)) (6 * (d + 1) + 400) (200 * (d + 1) + 11000) "filled" p R s m meth c) (hE : AC ws0 wsf R.cells R.slots) (x0 : Nat) (x1 : Nat) (rec : Int32 → St (Option Nat)) (k : St (Option Nat)) (hrec : ∀ (x2 : Int32), At_ l D cy z p e R s m args below meth c ws0 wsf vR rr 3 19 [(0, .ref x0), (1, .ref x1), (2, .int x2)] [] (rec x2)) (hkk : At_ l D cy z p e R s m args below meth c ws0 wsf vR rr 3 40 [(0, .ref x0), (1, .ref x1)] [] (k)) (x2 : Int32) : At_ l D cy z p e R s m args below meth c ws0 wsf vR rr 3 19 [(0, .ref x0), (1, .ref x1), (2, .int x2)] [] (b_X1_filled_19 x0 x1 rec k x2) := by
  intro ws H locs cells slots ls hl hH hF
  obtain ⟨hx, hb, hr, hml, hown, hk, hz, hlocks, hnm, hfr, hlo⟩ := id cx
  unfold b_X1_filled_19 at hF
  refine lv_iload_n hx hb dX1_filled_19 rfl (lv_at hl 2 rfl) ?_
  refine lv_sipush (v := (4096)) hx hb dX1_filled_20 (by decide) ?_
  refine lv_icmp_ge (tgt := 40) hx hb dX1_filled_23 (by decide) (fun hc6 => ?_) (fun hc6 => ?_)
  · have hF := bq_t hc6 hF
    exact hkk _ _ _ _ _ _ (lv_sub hl [0, 1] rfl) hH hF
  · have hF := bq_f hc6 hF
    refine lv_aload_n hx hb dX1_filled_26 rfl (lv_at hl 1 rfl) ?_
    refine lv_iload_n hx hb dX1_filled_27 rfl (lv_at hl 2 rfl) ?_
    refine lv_aload_n hx hb dX1_filled_28 rfl (lv_at hl 0 rfl) ?_
    refine lv_iload_n hx hb dX1_filled_29 rfl (lv_at hl 2 rfl) ?_
    refine m_cUI hx hb hml hown hk hH hE.le hz (x := ⟨"CurveFoundry$Curve", "workedOut", "(I)I"⟩) (owner := "CurveFoundry$Curve") (y := (fun ci => vd ci yX4_workedOut yX5_workedOut yX7_workedOut)) (bytes := (fun ci => vd ci cX4_workedOut cX5_workedOut cX7_workedOut)) (maxL := (fun ci => vd ci 2 2 3)) (fr := (fun ci => vd ci (2) (3) (325 + 4))) (lo := (fun ci => vd ci (68) (94) (9900 + 120))) (F := fun q9 => vd q9.2 (F_X4_workedOut q9.1 x2) (F_X5_workedOut q9.1 x2) (F_X7_workedOut (F_X1_at 64) q9.1 x2)) (As := [.int x2]) (rest := [.int x2, .ref x1]) (fun o => m_c3 (t_X4_workedOut l D cy z o x2) (t_X5_workedOut l D cy z o x2) (t_X7_workedOut l D cy z (F_X1_at 64) (fun o x => t_X1_at l D cy z 64 o x) o x2)) hF wd_404 wd_406 (va_Decl.abs (hk.wd wd_405 #[])) (m_c3 ⟨_, rfl, wd_407, wd_408, wd_40, wd_409, Nat.le_trans (by (first | omega | (simp [vd]; done) | (simp [vd]; omega))) hfr, Nat.le_trans (by (first | omega | (simp [vd]; done) | (simp [vd]; omega))) hlo⟩ ⟨_, rfl, wd_422, wd_423, wd_41, wd_424, Nat.le_trans (by (first | omega | (simp [vd]; done) | (simp [vd]; omega))) hfr, Nat.le_trans (by (first | omega | (simp [vd]; done) | (simp [vd]; omega))) hlo⟩ ⟨_, rfl, wd_434, wd_435, wd_43, wd_436, Nat.le_trans (by (first | omega | (simp [vd]; done) | (simp [vd]; omega))) hfr, Nat.le_trans (by (first | omega | (simp [vd]; done) | (simp [vd]; omega))) hlo⟩) yc_workedOut hl.1 (by first | exact Nat.le_of_ble_eq_true rfl | simp [m_cat, m_ci, m_cl, m_cf, m_cd, m_cr]) rfl dX1_filled_30 (fun c8 ws H locs cells slots hH hF => ?_)
    refine m_sI0 hx hb hk hH hF dX1_filled_33 (fun ws H locs hH hF => ?_)
    refine lv_iinc (v := (x2 + (1 : Int32))) (lv' := [(2, .int (x2 + (1 : Int32))), (0, .ref x0), (1, .ref x1)]) hx hb dX1_filled_34 hl (k := 2) rfl (by first | rfl | (congr 1)) (by decide) (by first | rfl | simp [m_cat, m_ci, m_cl, m_cf, m_cd, m_cr]) (fun ls hl => ?_)
    refine lv_goto (tgt := 19) hx hb dX1_filled_37 (by decide) ?_
    exact hrec _ _ _ _ _ _ _ (lv_sub hl [1, 2, 0] rfl) hH hF
theorem w_X1_filled_19 {l : Launch} {D : va_G} {cy : Nat → ClassId} {z : Nat} {p : Program} {e : Env} {R : Room} {s : State} {m : MethodId} {args : Array Value} {below : List Frame} {meth : Method} {c : Code} {ws0 wsf : WS} {rr : Option Nat} {d : Nat} (cx : Cx D cy z RX1 cX1_filled 3 (some (.array .int)) (6 * (d + 1) + 400) (200 * (d + 1) + 11000) "filled" p R s m meth c) (hE : AC ws0 wsf R.cells R.slots) (x0 : Nat) (x1 : Nat) (k : St (Option Nat)) (hkk : At_ l D cy z p e R s m args below meth c ws0 wsf vR rr 3 40 [(0, .ref x0), (1, .ref x1)] [] (k)) : ∀ (n : Nat) (x2 : Int32), At_ l D cy z p e R s m args below meth c ws0 wsf vR rr 3 19 [(0, .ref x0), (1, .ref x1), (2, .int x2)] [] (l_X1_filled_19 x0 x1 k n x2) := by
  intro n
  induction n with
  | zero =>
    intro x2 ws H locs cells slots ls hl hH hF
    exact fl_t hF
  | succ n ih =>
    intro x2
    exact wb_X1_filled_19 cx hE x0 x1 (l_X1_filled_19 x0 x1 k n) k ih hkk x2
set_option maxHeartbeats 4000000 in
set_option maxRecDepth 100000 in
theorem t_X1_filled (l : Launch) (D : va_G) (cy : Nat → ClassId) (z : Nat) : ∀ (d : Nat) (o : Nat), MT l D cy z yX1_filled cX1_filled 3 (some (.array .int)) (6 * d + 400) (200 * d + 11000) (F_X1_filled d o) vR [.ref o] := by
  intro d
  induction d with
  | zero =>
    intro o ws r wsf mc ms hF
    exact fl_t hF
  | succ d ih =>
    intro o
    refine m_enter [(0, .ref o)] (by decide) (by first | rfl | simp [lv_args, m_cat, m_ci, m_cl, m_cf, m_cd, m_cr]) (by first | exact Nat.le_of_ble_eq_true rfl | simp [lg_sl, m_cat, m_ci, m_cl, m_cf, m_cd, m_cr]) ?_
    intro p e R s m args below meth c ws0 wsf rr cx hE ws H locs cells slots ls hl hH hF
    obtain ⟨hx, hb, hr, hml, hown, hk, hz, hlocks, hnm, hfr, hlo⟩ := id cx
    rw [F_X1_filled] at hF
    refine lv_aload_n hx hb dX1_filled_0 rfl (lv_at hl 0 rfl) ?_
    refine m_gR hx hb hown hk hH hF fk_RX1_row lk_RX1_9 dX1_filled_1 (fun v1 hF => ?_)
    refine m_ifnonnull (tgt := 45) hx hb dX1_filled_4 (by decide) (fun hc1 => ?_) (fun hc1 => ?_)
    · have hF := bq_f hc1 hF
      refine lv_aload_n hx hb dX1_filled_45 rfl (lv_at hl 0 rfl) ?_
      refine m_gR hx hb hown hk hH hF fk_RX1_row lk_RX1_9 dX1_filled_46 (fun v3 hF => ?_)
      exact m_aret hx hb hr (Or.inr ⟨_, rfl⟩) hlocks hH hE hF dX1_filled_49
    · have hF := bq_t hc1 hF
      refine lv_aload_n hx hb dX1_filled_7 rfl (lv_at hl 0 rfl) ?_
      refine m_cUU hx hb hml hown hk hH hE.le hz (x := ⟨"CurveFoundry$Curve", "makeParts", "()V"⟩) (owner := "CurveFoundry$Curve") (y := (fun ci => vd ci yX4_makeParts yX5_makeParts yX7_makeParts)) (bytes := (fun ci => vd ci cX4_makeParts cX5_makeParts cX7_makeParts)) (maxL := (fun ci => vd ci 1 1 1)) (fr := (fun ci => vd ci (0) (0) ((6 * d + 400) + 4))) (lo := (fun ci => vd ci (0) (0) ((200 * d + 11000) + 120))) (F := fun q5 => vd q5.2 (F_X4_makeParts q5.1) (F_X5_makeParts q5.1) (F_X7_makeParts (F_X1_filled d) q5.1)) (As := []) (rest := []) (fun o => m_c3 (t_X4_makeParts l D cy z o) (t_X5_makeParts l D cy z o) (t_X7_makeParts l D cy z (F_X1_filled d) ih o)) hF wd_471 wd_473 (va_Decl.abs (hk.wd wd_472 #[])) (m_c3 ⟨_, rfl, wd_474, wd_475, wd_40, wd_476, Nat.le_trans (by (first | omega | (simp [vd]; done) | (simp [vd]; omega))) hfr, Nat.le_trans (by (first | omega | (simp [vd]; done) | (simp [vd]; omega))) hlo⟩ ⟨_, rfl, wd_477, wd_478, wd_41, wd_479, Nat.le_trans (by (first | omega | (simp [vd]; done) | (simp [vd]; omega))) hfr, Nat.le_trans (by (first | omega | (simp [vd]; done) | (simp [vd]; omega))) hlo⟩ ⟨_, rfl, wd_480, wd_481, wd_43, wd_482, Nat.le_trans (by (first | omega | (simp [vd]; done) | (simp [vd]; omega))) hfr, Nat.le_trans (by (first | omega | (simp [vd]; done) | (simp [vd]; omega))) hlo⟩) yc_makeParts hl.1 (by first | exact Nat.le_of_ble_eq_true rfl | simp [m_cat, m_ci, m_cl, m_cf, m_cd, m_cr]) rfl dX1_filled_8 (fun c4 ws H locs cells slots hH hF => ?_)
      refine lv_sipush (v := (4096)) hx hb dX1_filled_11 (by decide) ?_
      refine m_nA (t := 0) hx hb hk hH hE.le hz (by decide) rfl (by decide) wd_96 hF dX1_filled_14 (fun a6 ws H hH hF => ?_)
      refine lv_astore_n (lv' := [(1, .ref a6), (0, .ref o)]) hx hb dX1_filled_16 rfl hl (by decide) (by first | rfl | simp [m_cat, m_ci, m_cl, m_cf, m_cd, m_cr]) (fun ls hl => ?_)
      refine lv_iconst (v := (0)) hx hb dX1_filled_17 (by decide) ?_
      refine lv_istore_n (lv' := [(2, .int (0 : Int32)), (1, .ref a6), (0, .ref o)]) hx hb dX1_filled_18 rfl hl (by decide) (by first | rfl | simp [m_cat, m_ci, m_cl, m_cf, m_cd, m_cr]) (fun ls hl => ?_)
      refine w_X1_filled_19 cx hE o a6 _ (fun ws H locs cells slots ls hl hH hF => ?_) _ _ _ _ _ _ _ _ (lv_sub hl [2, 1, 0] rfl) hH hF
      refine lv_aload_n hx hb dX1_filled_40 rfl (lv_at hl 0 rfl) ?_
      refine lv_aload_n hx hb dX1_filled_41 rfl (lv_at hl 1 rfl) ?_
      refine m_pV hx hb hown hk hH hF fk_RX1_row lk_RX1_9 pd_0 (m_nra _ _) (m_fra _ _) dX1_filled_42 (fun ws H locs hH hF => ?_)
      refine lv_aload_n hx hb dX1_filled_45 rfl (lv_at hl 0 rfl) ?_
      refine m_gR hx hb hown hk hH hF fk_RX1_row lk_RX1_9 dX1_filled_46 (fun v10 hF => ?_)
      exact m_aret hx hb hr (Or.inr ⟨_, rfl⟩) hlocks hH hE hF dX1_filled_49

def j_X2_findTurns_75 (rec : Int32 → Int32 → Int32 → St (Int32)) (k : Int32 → St (Int32)) (x0 : Option Nat) (x1 : Option Nat) (x2 : Int32) (x3 : Int32) (x4 : Int32) : St (Int32) :=
  rec x2 x3 (x4 + (1 : Int32))
def j_X2_findTurns_72 (rec : Int32 → Int32 → Int32 → St (Int32)) (k : Int32 → St (Int32)) (x0 : Option Nat) (x1 : Option Nat) (x2 : Int32) (x4 : Int32) (x5 : Int32) : St (Int32) :=
  j_X2_findTurns_75 rec k x0 x1 x2 x5 x4
def j_X2_findTurns_69 (rec : Int32 → Int32 → Int32 → St (Int32)) (k : Int32 → St (Int32)) (x0 : Option Nat) (x1 : Option Nat) (x2 : Int32) (x4 : Int32) (x5 : Int32) : St (Int32) :=
  j_X2_findTurns_72 rec k x0 x1 (x2 + (1 : Int32)) x4 x5
def j_X2_findTurns_49 (rec : Int32 → Int32 → Int32 → St (Int32)) (k : Int32 → St (Int32)) (x0 : Option Nat) (x1 : Option Nat) (x2 : Int32) (x3 : Int32) (x4 : Int32) (s0 : Int32) : St (Int32) :=
  br (s0 = (-x3)) (bd (aN 0 x1) fun v9 => br (v9 ≤ x2) (j_X2_findTurns_69 rec k x0 x1 x2 x4 s0) (bd (sI 0 x1 x2 x4) fun _ => j_X2_findTurns_69 rec k x0 x1 x2 x4 s0)) (j_X2_findTurns_72 rec k x0 x1 x2 x4 s0)
def b_X2_findTurns_7 (x0 : Option Nat) (x1 : Option Nat) (rec : Int32 → Int32 → Int32 → St (Int32)) (k : Int32 → St (Int32)) (x2 : Int32) (x3 : Int32) (x4 : Int32) : St (Int32) :=
  br ((4096 : Int32) ≤ x4) (k x2) (bd (aI 0 x0 x4) fun v2 => bd (aI 0 x0 (x4 - (1 : Int32))) fun v3 => br (v2 = v3) (j_X2_findTurns_75 rec k x0 x1 x2 x3 x4) (bd (aI 0 x0 x4) fun v5 => bd (aI 0 x0 (x4 - (1 : Int32))) fun v6 => br (v5 ≤ v6) (j_X2_findTurns_49 rec k x0 x1 x2 x3 x4 (-1 : Int32)) (j_X2_findTurns_49 rec k x0 x1 x2 x3 x4 (1 : Int32))))
def l_X2_findTurns_7 (x0 : Option Nat) (x1 : Option Nat) (k : Int32 → St (Int32)) : Nat → Int32 → Int32 → Int32 → St (Int32)
  | 0 => fun _ _ _ => fl
  | n + 1 => fun x2 x3 x4 => b_X2_findTurns_7 x0 x1 (l_X2_findTurns_7 x0 x1 k n) k x2 x3 x4
def F_X2_findTurns (x0 : Option Nat) (x1 : Option Nat) : St (Int32) :=
  l_X2_findTurns_7 x0 x1 (fun (e11 : Int32) => rt e11) FU (0 : Int32) (0 : Int32) (1 : Int32)
set_option maxHeartbeats 4000000 in
set_option maxRecDepth 100000 in
theorem w_X2_findTurns_75 {l : Launch} {D : va_G} {cy : Nat → ClassId} {z : Nat} {p : Program} {e : Env} {R : Room} {s : State} {m : MethodId} {args : Array Value} {below : List Frame} {meth : Method} {c : Code} {ws0 wsf : WS} {rr : Int32} (cx : Cx D cy z RX2 cX2_findTurns 6 (some .int) 0 0 "findTurns" p R s m meth c) (hE : AC ws0 wsf R.cells R.slots) (rec : Int32 → Int32 → Int32 → St (Int32)) (k : Int32 → St (Int32)) (x0 : Option Nat) (x1 : Option Nat) (hrec : ∀ (x2 : Int32) (x3 : Int32) (x4 : Int32), At_ l D cy z p e R s m args below meth c ws0 wsf vI rr 6 7 [(0, va_rf x0), (1, va_rf x1), (2, .int x2), (3, .int x3), (4, .int x4)] [] (rec x2 x3 x4)) (hkk : ∀ (x2 : Int32), At_ l D cy z p e R s m args below meth c ws0 wsf vI rr 6 81 [(2, .int x2)] [] (k x2)) (x2 : Int32) (x3 : Int32) (x4 : Int32) : At_ l D cy z p e R s m args below meth c ws0 wsf vI rr 6 75 [(0, va_rf x0), (1, va_rf x1), (2, .int x2), (3, .int x3), (4, .int x4)] [] (j_X2_findTurns_75 rec k x0 x1 x2 x3 x4) := by
  intro ws H locs cells slots ls hl hH hF
  obtain ⟨hx, hb, hr, hml, hown, hk, hz, hlocks, hnm, hfr, hlo⟩ := id cx
  unfold j_X2_findTurns_75 at hF
  refine lv_iinc (v := (x4 + (1 : Int32))) (lv' := [(4, .int (x4 + (1 : Int32))), (0, va_rf x0), (1, va_rf x1), (2, .int x2), (3, .int x3)]) hx hb dX2_findTurns_75 hl (k := 4) rfl (by first | rfl | (congr 1)) (by decide) (by first | rfl | simp [m_cat, m_ci, m_cl, m_cf, m_cd, m_cr]) (fun ls hl => ?_)
  refine lv_goto (tgt := 7) hx hb dX2_findTurns_78 (by decide) ?_
  exact hrec _ _ _ _ _ _ _ _ _ (lv_sub hl [1, 2, 3, 4, 0] rfl) hH hF
set_option maxHeartbeats 4000000 in
set_option maxRecDepth 100000 in
theorem w_X2_findTurns_72 {l : Launch} {D : va_G} {cy : Nat → ClassId} {z : Nat} {p : Program} {e : Env} {R : Room} {s : State} {m : MethodId} {args : Array Value} {below : List Frame} {meth : Method} {c : Code} {ws0 wsf : WS} {rr : Int32} (cx : Cx D cy z RX2 cX2_findTurns 6 (some .int) 0 0 "findTurns" p R s m meth c) (hE : AC ws0 wsf R.cells R.slots) (rec : Int32 → Int32 → Int32 → St (Int32)) (k : Int32 → St (Int32)) (x0 : Option Nat) (x1 : Option Nat) (hrec : ∀ (x2 : Int32) (x3 : Int32) (x4 : Int32), At_ l D cy z p e R s m args below meth c ws0 wsf vI rr 6 7 [(0, va_rf x0), (1, va_rf x1), (2, .int x2), (3, .int x3), (4, .int x4)] [] (rec x2 x3 x4)) (hkk : ∀ (x2 : Int32), At_ l D cy z p e R s m args below meth c ws0 wsf vI rr 6 81 [(2, .int x2)] [] (k x2)) (x2 : Int32) (x4 : Int32) (x5 : Int32) : At_ l D cy z p e R s m args below meth c ws0 wsf vI rr 6 72 [(0, va_rf x0), (1, va_rf x1), (2, .int x2), (4, .int x4), (5, .int x5)] [] (j_X2_findTurns_72 rec k x0 x1 x2 x4 x5) := by
  intro ws H locs cells slots ls hl hH hF
  obtain ⟨hx, hb, hr, hml, hown, hk, hz, hlocks, hnm, hfr, hlo⟩ := id cx
  unfold j_X2_findTurns_72 at hF
  refine lv_iload hx hb dX2_findTurns_72 (lv_at hl 4 rfl) ?_
  refine lv_istore_n (lv' := [(3, .int x5), (0, va_rf x0), (1, va_rf x1), (2, .int x2), (4, .int x4), (5, .int x5)]) hx hb dX2_findTurns_74 rfl hl (by decide) (by first | rfl | simp [m_cat, m_ci, m_cl, m_cf, m_cd, m_cr]) (fun ls hl => ?_)
  exact w_X2_findTurns_75 cx hE _ _ x0 x1 hrec hkk x2 x5 x4 _ _ _ _ _ _ (lv_sub hl [1, 2, 3, 0, 4] rfl) hH hF
set_option maxHeartbeats 4000000 in
set_option maxRecDepth 100000 in
theorem w_X2_findTurns_69 {l : Launch} {D : va_G} {cy : Nat → ClassId} {z : Nat} {p : Program} {e : Env} {R : Room} {s : State} {m : MethodId} {args : Array Value} {below : List Frame} {meth : Method} {c : Code} {ws0 wsf : WS} {rr : Int32} (cx : Cx D cy z RX2 cX2_findTurns 6 (some .int) 0 0 "findTurns" p R s m meth c) (hE : AC ws0 wsf R.cells R.slots) (rec : Int32 → Int32 → Int32 → St (Int32)) (k : Int32 → St (Int32)) (x0 : Option Nat) (x1 : Option Nat) (hrec : ∀ (x2 : Int32) (x3 : Int32) (x4 : Int32), At_ l D cy z p e R s m args below meth c ws0 wsf vI rr 6 7 [(0, va_rf x0), (1, va_rf x1), (2, .int x2), (3, .int x3), (4, .int x4)] [] (rec x2 x3 x4)) (hkk : ∀ (x2 : Int32), At_ l D cy z p e R s m args below meth c ws0 wsf vI rr 6 81 [(2, .int x2)] [] (k x2)) (x2 : Int32) (x4 : Int32) (x5 : Int32) : At_ l D cy z p e R s m args below meth c ws0 wsf vI rr 6 69 [(0, va_rf x0), (1, va_rf x1), (2, .int x2), (4, .int x4), (5, .int x5)] [] (j_X2_findTurns_69 rec k x0 x1 x2 x4 x5) := by
  intro ws H locs cells slots ls hl hH hF
  obtain ⟨hx, hb, hr, hml, hown, hk, hz, hlocks, hnm, hfr, hlo⟩ := id cx
  unfold j_X2_findTurns_69 at hF
  refine lv_iinc (v := (x2 + (1 : Int32))) (lv' := [(2, .int (x2 + (1 : Int32))), (0, va_rf x0), (1, va_rf x1), (4, .int x4), (5, .int x5)]) hx hb dX2_findTurns_69 hl (k := 2) rfl (by first | rfl | (congr 1)) (by decide) (by first | rfl | simp [m_cat, m_ci, m_cl, m_cf, m_cd, m_cr]) (fun ls hl => ?_)
  exact w_X2_findTurns_72 cx hE _ _ x0 x1 hrec hkk (x2 + (1 : Int32)) x4 x5 _ _ _ _ _ _ (lv_sub hl [1, 2, 0, 3, 4] rfl) hH hF
set_option maxHeartbeats 4000000 in
set_option maxRecDepth 100000 in
theorem w_X2_findTurns_49 {l : Launch} {D : va_G} {cy : Nat → ClassId} {z : Nat} {p : Program} {e : Env} {R : Room} {s : State} {m : MethodId} {args : Array Value} {below : List Frame} {meth : Method} {c : Code} {ws0 wsf : WS} {rr : Int32} (cx : Cx D cy z RX2 cX2_findTurns 6 (some .int) 0 0 "findTurns" p R s m meth c) (hE : AC ws0 wsf R.cells R.slots) (rec : Int32 → Int32 → Int32 → St (Int32)) (k : Int32 → St (Int32)) (x0 : Option Nat) (x1 : Option Nat) (hrec : ∀ (x2 : Int32) (x3 : Int32) (x4 : Int32), At_ l D cy z p e R s m args below meth c ws0 wsf vI rr 6 7 [(0, va_rf x0), (1, va_rf x1), (2, .int x2), (3, .int x3), (4, .int x4)] [] (rec x2 x3 x4)) (hkk : ∀ (x2 : Int32), At_ l D cy z p e R s m args below meth c ws0 wsf vI rr 6 81 [(2, .int x2)] [] (k x2)) (x2 : Int32) (x3 : Int32) (x4 : Int32) (s0 : Int32) : At_ l D cy z p e R s m args below meth c ws0 wsf vI rr 6 49 [(0, va_rf x0), (1, va_rf x1), (2, .int x2), (3, .int x3), (4, .int x4)] [.int s0] (j_X2_findTurns_49 rec k x0 x1 x2 x3 x4 s0) := by
  intro ws H locs cells slots ls hl hH hF
  obtain ⟨hx, hb, hr, hml, hown, hk, hz, hlocks, hnm, hfr, hlo⟩ := id cx
  unfold j_X2_findTurns_49 at hF
  refine lv_istore (lv' := [(5, .int s0), (0, va_rf x0), (1, va_rf x1), (2, .int x2), (3, .int x3), (4, .int x4)]) hx hb dX2_findTurns_49 hl (by decide) (by first | rfl | simp [m_cat, m_ci, m_cl, m_cf, m_cd, m_cr]) (fun ls hl => ?_)
  refine lv_iload hx hb dX2_findTurns_51 (lv_at hl 0 rfl) ?_
  refine lv_iload_n hx hb dX2_findTurns_53 rfl (lv_at hl 4 rfl) ?_
  refine lv_ineg hx hb dX2_findTurns_54 ?_
  refine lv_icmp_ne (tgt := 72) hx hb dX2_findTurns_55 (by decide) (fun hc7 => ?_) (fun hc7 => ?_)
  · have hF := bq_f hc7 hF
    exact w_X2_findTurns_72 cx hE _ _ x0 x1 hrec hkk x2 x4 s0 _ _ _ _ _ _ (lv_sub hl [1, 2, 3, 5, 0] rfl) hH hF
  · have hF := bq_t hc7 hF
    refine lv_iload_n hx hb dX2_findTurns_58 rfl (lv_at hl 3 rfl) ?_
    refine m_aload_n hx hb dX2_findTurns_59 rfl (lv_at hl 2 rfl) ?_
    refine m_aN (t := 0) hx hb hk hH (by decide) hF dX2_findTurns_60 (fun v9 hF => ?_)
    refine lv_icmp_ge (tgt := 69) hx hb dX2_findTurns_61 (by decide) (fun hc9 => ?_) (fun hc9 => ?_)
    · have hF := bq_t hc9 hF
      exact w_X2_findTurns_69 cx hE _ _ x0 x1 hrec hkk x2 x4 s0 _ _ _ _ _ _ (lv_sub hl [1, 2, 3, 5, 0] rfl) hH hF
    · have hF := bq_f hc9 hF
      refine m_aload_n hx hb dX2_findTurns_64 rfl (lv_at hl 2 rfl) ?_
      refine lv_iload_n hx hb dX2_findTurns_65 rfl (lv_at hl 3 rfl) ?_
      refine lv_iload hx hb dX2_findTurns_66 (lv_at hl 5 rfl) ?_
      refine m_sI0 hx hb hk hH hF dX2_findTurns_68 (fun ws H locs hH hF => ?_)
      exact w_X2_findTurns_69 cx hE _ _ x0 x1 hrec hkk x2 x4 s0 _ _ _ _ _ _ (lv_sub hl [1, 2, 3, 5, 0] rfl) hH hF
set_option maxHeartbeats 4000000 in
set_option maxRecDepth 100000 in
theorem wb_X2_findTurns_7 {l : Launch} {D : va_G} {cy : Nat → ClassId} {z : Nat} {p : Program} {e : Env} {R : Room} {s : State} {m : MethodId} {args : Array Value} {below : List Frame} {meth : Method} {c : Code} {ws0 wsf : WS} {rr : Int32} (cx : Cx D cy z RX2 cX2_findTurns 6 (some .int) 0 0 "findTurns" p R s m meth c) (hE : AC ws0 wsf R.cells R.slots) (x0 : Option Nat) (x1 : Option Nat) (rec : Int32 → Int32 → Int32 → St (Int32)) (k : Int32 → St (Int32)) (hrec : ∀ (x2 : Int32) (x3 : Int32) (x4 : Int32), At_ l D cy z p e R s m args below meth c ws0 wsf vI rr 6 7 [(0, va_rf x0), (1, va_rf x1), (2, .int x2), (3, .int x3), (4, .int x4)] [] (rec x2 x3 x4)) (hkk : ∀ (x2 : Int32), At_ l D cy z p e R s m args below meth c ws0 wsf vI rr 6 81 [(2, .int x2)] [] (k x2)) (x2 : Int32) (x3 : Int32) (x4 : Int32) : At_ l D cy z p e R s m args below meth c ws0 wsf vI rr 6 7 [(0, va_rf x0), (1, va_rf x1), (2, .int x2), (3, .int x3), (4, .int x4)] [] (b_X2_findTurns_7 x0 x1 rec k x2 x3 x4) := by
  intro ws H locs cells slots ls hl hH hF
  obtain ⟨hx, hb, hr, hml, hown, hk, hz, hlocks, hnm, hfr, hlo⟩ := id cx
  unfold b_X2_findTurns_7 at hF
  refine lv_iload hx hb dX2_findTurns_7 (lv_at hl 4 rfl) ?_
  refine lv_sipush (v := (4096)) hx hb dX2_findTurns_9 (by decide) ?_
  refine lv_icmp_ge (tgt := 81) hx hb dX2_findTurns_12 (by decide) (fun hc0 => ?_) (fun hc0 => ?_)
  · have hF := bq_t hc0 hF
    exact hkk _ _ _ _ _ _ _ (lv_sub hl [2] rfl) hH hF
  · have hF := bq_f hc0 hF
    refine m_aload_n hx hb dX2_findTurns_15 rfl (lv_at hl 0 rfl) ?_
    refine lv_iload hx hb dX2_findTurns_16 (lv_at hl 4 rfl) ?_
    refine m_aI0 hx hb hk hH hF dX2_findTurns_18 (fun v2 hF => ?_)
    refine m_aload_n hx hb dX2_findTurns_19 rfl (lv_at hl 0 rfl) ?_
    refine lv_iload hx hb dX2_findTurns_20 (lv_at hl 4 rfl) ?_
    refine lv_iconst (v := (1)) hx hb dX2_findTurns_22 (by decide) ?_
    refine lv_isub hx hb dX2_findTurns_23 ?_
    refine m_aI0 hx hb hk hH hF dX2_findTurns_24 (fun v3 hF => ?_)
    refine lv_icmp_ne (tgt := 31) hx hb dX2_findTurns_25 (by decide) (fun hc3 => ?_) (fun hc3 => ?_)
    · have hF := bq_f hc3 hF
      refine m_aload_n hx hb dX2_findTurns_31 rfl (lv_at hl 0 rfl) ?_
      refine lv_iload hx hb dX2_findTurns_32 (lv_at hl 4 rfl) ?_
      refine m_aI0 hx hb hk hH hF dX2_findTurns_34 (fun v5 hF => ?_)
      refine m_aload_n hx hb dX2_findTurns_35 rfl (lv_at hl 0 rfl) ?_
      refine lv_iload hx hb dX2_findTurns_36 (lv_at hl 4 rfl) ?_
      refine lv_iconst (v := (1)) hx hb dX2_findTurns_38 (by decide) ?_
      refine lv_isub hx hb dX2_findTurns_39 ?_
      refine m_aI0 hx hb hk hH hF dX2_findTurns_40 (fun v6 hF => ?_)
      refine lv_icmp_le (tgt := 48) hx hb dX2_findTurns_41 (by decide) (fun hc6 => ?_) (fun hc6 => ?_)
      · have hF := bq_t hc6 hF
        refine lv_iconst (v := (-1)) hx hb dX2_findTurns_48 (by decide) ?_
        exact w_X2_findTurns_49 cx hE _ _ x0 x1 hrec hkk x2 x3 x4 (-1 : Int32) _ _ _ _ _ _ (lv_sub hl [0, 1, 2, 3, 4] rfl) hH hF
      · have hF := bq_f hc6 hF
        refine lv_iconst (v := (1)) hx hb dX2_findTurns_44 (by decide) ?_
        refine lv_goto (tgt := 49) hx hb dX2_findTurns_45 (by decide) ?_
        exact w_X2_findTurns_49 cx hE _ _ x0 x1 hrec hkk x2 x3 x4 (1 : Int32) _ _ _ _ _ _ (lv_sub hl [0, 1, 2, 3, 4] rfl) hH hF
    · have hF := bq_t hc3 hF
      refine lv_goto (tgt := 75) hx hb dX2_findTurns_28 (by decide) ?_
      exact w_X2_findTurns_75 cx hE _ _ x0 x1 hrec hkk x2 x3 x4 _ _ _ _ _ _ (lv_sub hl [0, 1, 2, 3, 4] rfl) hH hF
theorem w_X2_findTurns_7 {l : Launch} {D : va_G} {cy : Nat → ClassId} {z : Nat} {p : Program} {e : Env} {R : Room} {s : State} {m : MethodId} {args : Array Value} {below : List Frame} {meth : Method} {c : Code} {ws0 wsf : WS} {rr : Int32} (cx : Cx D cy z RX2 cX2_findTurns 6 (some .int) 0 0 "findTurns" p R s m meth c) (hE : AC ws0 wsf R.cells R.slots) (x0 : Option Nat) (x1 : Option Nat) (k : Int32 → St (Int32)) (hkk : ∀ (x2 : Int32), At_ l D cy z p e R s m args below meth c ws0 wsf vI rr 6 81 [(2, .int x2)] [] (k x2)) : ∀ (n : Nat) (x2 : Int32) (x3 : Int32) (x4 : Int32), At_ l D cy z p e R s m args below meth c ws0 wsf vI rr 6 7 [(0, va_rf x0), (1, va_rf x1), (2, .int x2), (3, .int x3), (4, .int x4)] [] (l_X2_findTurns_7 x0 x1 k n x2 x3 x4) := by
  intro n
  induction n with
  | zero =>
    intro x2 x3 x4 ws H locs cells slots ls hl hH hF
    exact fl_t hF
  | succ n ih =>
    intro x2 x3 x4
    exact wb_X2_findTurns_7 cx hE x0 x1 (l_X2_findTurns_7 x0 x1 k n) k ih hkk x2 x3 x4
set_option maxHeartbeats 4000000 in
set_option maxRecDepth 100000 in
theorem t_X2_findTurns (l : Launch) (D : va_G) (cy : Nat → ClassId) (z : Nat) (x0 : Option Nat) (x1 : Option Nat) : MT l D cy z yX2_findTurns cX2_findTurns 6 (some .int) 0 0 (F_X2_findTurns x0 x1) vI [va_rf x0, va_rf x1] := by
  refine m_enter [(0, va_rf x0), (1, va_rf x1)] (by decide) (by first | rfl | simp [lv_args, m_cat, m_ci, m_cl, m_cf, m_cd, m_cr]) (by first | exact Nat.le_of_ble_eq_true rfl | simp [lg_sl, m_cat, m_ci, m_cl, m_cf, m_cd, m_cr]) ?_
  intro p e R s m args below meth c ws0 wsf rr cx hE ws H locs cells slots ls hl hH hF
  obtain ⟨hx, hb, hr, hml, hown, hk, hz, hlocks, hnm, hfr, hlo⟩ := id cx
  unfold F_X2_findTurns at hF
  refine lv_iconst (v := (0)) hx hb dX2_findTurns_0 (by decide) ?_
  refine lv_istore_n (lv' := [(2, .int (0 : Int32)), (0, va_rf x0), (1, va_rf x1)]) hx hb dX2_findTurns_1 rfl hl (by decide) (by first | rfl | simp [m_cat, m_ci, m_cl, m_cf, m_cd, m_cr]) (fun ls hl => ?_)
  refine lv_iconst (v := (0)) hx hb dX2_findTurns_2 (by decide) ?_
  refine lv_istore_n (lv' := [(3, .int (0 : Int32)), (2, .int (0 : Int32)), (0, va_rf x0), (1, va_rf x1)]) hx hb dX2_findTurns_3 rfl hl (by decide) (by first | rfl | simp [m_cat, m_ci, m_cl, m_cf, m_cd, m_cr]) (fun ls hl => ?_)
  refine lv_iconst (v := (1)) hx hb dX2_findTurns_4 (by decide) ?_
  refine lv_istore (lv' := [(4, .int (1 : Int32)), (3, .int (0 : Int32)), (2, .int (0 : Int32)), (0, va_rf x0), (1, va_rf x1)]) hx hb dX2_findTurns_5 hl (by decide) (by first | rfl | simp [m_cat, m_ci, m_cl, m_cf, m_cd, m_cr]) (fun ls hl => ?_)
  refine w_X2_findTurns_7 cx hE x0 x1 _ (fun e11 ws H locs cells slots ls hl hH hF => ?_) _ _ _ _ _ _ _ _ _ _ (lv_sub hl [3, 4, 2, 1, 0] rfl) hH hF
  refine lv_iload_n hx hb dX2_findTurns_81 rfl (lv_at hl 0 rfl) ?_
  exact m_iret hx hb hr hlocks hH hE hF rfl dX2_findTurns_82

def j_X2_init_82 (rec : Int32 → Int32 → Int32 → Int32 → Int32 → St (Unit)) (k : Int32 → Int32 → Int32 → Int32 → St (Unit)) (x0 : Nat) (x1 : Option Nat) (x2 : Int32) (x3 : Int32) (x4 : Int32) (x6 : Int32) (s0 : Int32) : St (Unit) :=
  bd (aI 0 x1 x6) fun v6 => bd (rt (if v6 < x2 then v6 else x2)) fun v7 => bd (aI 0 x1 x6) fun v8 => bd (rt (if x3 < v8 then v8 else x3)) fun v9 => rec v7 v9 x4 s0 (x6 + (1 : Int32))
def j_X2_init_77 (rec : Int32 → Int32 → Int32 → Int32 → Int32 → St (Unit)) (k : Int32 → Int32 → Int32 → Int32 → St (Unit)) (x0 : Nat) (x1 : Option Nat) (x2 : Int32) (x3 : Int32) (x4 : Int32) (x6 : Int32) : St (Unit) :=
  j_X2_init_82 rec k x0 x1 x2 x3 x4 x6 (1 : Int32)
def j_X2_init_57 (rec : Int32 → Int32 → Int32 → Int32 → Int32 → St (Unit)) (k : Int32 → Int32 → Int32 → Int32 → St (Unit)) (x0 : Nat) (x1 : Option Nat) (x2 : Int32) (x3 : Int32) (x5 : Int32) (x6 : Int32) (s0 : Int32) : St (Unit) :=
  br (x5 = 0) (bd (aI 0 x1 x6) fun v10 => bd (aI 0 x1 (x6 - (1 : Int32))) fun v11 => br (v11 ≤ v10) (j_X2_init_82 rec k x0 x1 x2 x3 s0 x6 (0 : Int32)) (j_X2_init_77 rec k x0 x1 x2 x3 s0 x6)) (j_X2_init_77 rec k x0 x1 x2 x3 s0 x6)
def j_X2_init_52 (rec : Int32 → Int32 → Int32 → Int32 → Int32 → St (Unit)) (k : Int32 → Int32 → Int32 → Int32 → St (Unit)) (x0 : Nat) (x1 : Option Nat) (x2 : Int32) (x3 : Int32) (x5 : Int32) (x6 : Int32) : St (Unit) :=
  j_X2_init_57 rec k x0 x1 x2 x3 x5 x6 (1 : Int32)
def b_X2_init_26 (x0 : Nat) (x1 : Option Nat) (rec : Int32 → Int32 → Int32 → Int32 → Int32 → St (Unit)) (k : Int32 → Int32 → Int32 → Int32 → St (Unit)) (x2 : Int32) (x3 : Int32) (x4 : Int32) (x5 : Int32) (x6 : Int32) : St (Unit) :=
  br ((4096 : Int32) ≤ x6) (k x2 x3 x4 x5) (br (x4 = 0) (bd (aI 0 x1 x6) fun v13 => bd (aI 0 x1 (x6 - (1 : Int32))) fun v14 => br (v13 ≤ v14) (j_X2_init_57 rec k x0 x1 x2 x3 x5 x6 (0 : Int32)) (j_X2_init_52 rec k x0 x1 x2 x3 x5 x6)) (j_X2_init_52 rec k x0 x1 x2 x3 x5 x6))
def l_X2_init_26 (x0 : Nat) (x1 : Option Nat) (k : Int32 → Int32 → Int32 → Int32 → St (Unit)) : Nat → Int32 → Int32 → Int32 → Int32 → Int32 → St (Unit)
  | 0 => fun _ _ _ _ _ => fl
  | n + 1 => fun x2 x3 x4 x5 x6 => b_X2_init_26 x0 x1 (l_X2_init_26 x0 x1 k n) k x2 x3 x4 x5 x6
def j_X2_init_152 (x0 : Nat) (x1 : Option Nat) (x4 : Int32) (x5 : Int32) (s0 : Nat) (s1 : Int32) : St (Unit) :=
  bd (pV [1] 1 (some s0) (.int s1)) fun _ => br (x4 = 0) (bd (pV [1] 2 (some x0) (.int (0 : Int32))) fun _ => rt ()) (br (x5 = 0) (bd (pV [1] 2 (some x0) (.int (0 : Int32))) fun _ => rt ()) (bd (nA 0 (0 : Int32)) fun a24 => bd (F_X2_findTurns x1 (some a24)) fun c25 => bd (pV [1] 2 (some x0) (.int c25)) fun _ => rt ()))
def F_X2_init (o : Nat) (x1 : Option Nat) : St (Unit) :=
  bd (pV [1] 5 (some o) (va_rf none)) fun _ => bd (aI 0 x1 (0 : Int32)) fun v1 => bd (aI 0 x1 (0 : Int32)) fun v2 => l_X2_init_26 o x1 (fun (e16 : Int32) (e17 : Int32) (e18 : Int32) (e19 : Int32) => bd (pV [1] 0 (some o) (va_rf x1)) fun _ => bd (pV [1] 3 (some o) (.int e16)) fun _ => bd (pV [1] 4 (some o) (.int e17)) fun _ => br (e18 = 0) (br (e19 = 0) (j_X2_init_152 o x1 e18 e19 o (2 : Int32)) (j_X2_init_152 o x1 e18 e19 o (-1 : Int32))) (br (e19 = 0) (j_X2_init_152 o x1 e18 e19 o (1 : Int32)) (j_X2_init_152 o x1 e18 e19 o (0 : Int32)))) FU v1 v2 (0 : Int32) (0 : Int32) (1 : Int32)
set_option maxHeartbeats 4000000 in
set_option maxRecDepth 100000 in
theorem w_X2_init_82 {l : Launch} {D : va_G} {cy : Nat → ClassId} {z : Nat} {p : Program} {e : Env} {R : Room} {s : State} {m : MethodId} {args : Array Value} {below : List Frame} {meth : Method} {c : Code} {ws0 wsf : WS} {rr : Unit} (cx : Cx D cy z RX2 cX2_init 7 none 1 40 "<init>" p R s m meth c) (hE : AC ws0 wsf R.cells R.slots) (rec : Int32 → Int32 → Int32 → Int32 → Int32 → St (Unit)) (k : Int32 → Int32 → Int32 → Int32 → St (Unit)) (x0 : Nat) (x1 : Option Nat) (hrec : ∀ (x2 : Int32) (x3 : Int32) (x4 : Int32) (x5 : Int32) (x6 : Int32), At_ l D cy z p e R s m args below meth c ws0 wsf vU rr 7 26 [(0, .ref x0), (1, va_rf x1), (2, .int x2), (3, .int x3), (4, .int x4), (5, .int x5), (6, .int x6)] [] (rec x2 x3 x4 x5 x6)) (hkk : ∀ (x2 : Int32) (x3 : Int32) (x4 : Int32) (x5 : Int32), At_ l D cy z p e R s m args below meth c ws0 wsf vU rr 7 108 [(0, .ref x0), (1, va_rf x1), (2, .int x2), (3, .int x3), (4, .int x4), (5, .int x5)] [] (k x2 x3 x4 x5)) (x2 : Int32) (x3 : Int32) (x4 : Int32) (x6 : Int32) (s0 : Int32) : At_ l D cy z p e R s m args below meth c ws0 wsf vU rr 7 82 [(0, .ref x0), (1, va_rf x1), (2, .int x2), (3, .int x3), (4, .int x4), (6, .int x6)] [.int s0] (j_X2_init_82 rec k x0 x1 x2 x3 x4 x6 s0) := by
  intro ws H locs cells slots ls hl hH hF
  obtain ⟨hx, hb, hr, hml, hown, hk, hz, hlocks, hnm, hfr, hlo⟩ := id cx
  unfold j_X2_init_82 at hF
  refine lv_istore (lv' := [(5, .int s0), (0, .ref x0), (1, va_rf x1), (2, .int x2), (3, .int x3), (4, .int x4), (6, .int x6)]) hx hb dX2_init_82 hl (by decide) (by first | rfl | simp [m_cat, m_ci, m_cl, m_cf, m_cd, m_cr]) (fun ls hl => ?_)
  refine lv_iload_n hx hb dX2_init_84 rfl (lv_at hl 3 rfl) ?_
  refine m_aload_n hx hb dX2_init_85 rfl (lv_at hl 2 rfl) ?_
  refine lv_iload hx hb dX2_init_86 (lv_at hl 6 rfl) ?_
  refine m_aI0 hx hb hk hH hF dX2_init_88 (fun v6 hF => ?_)
  refine va_mmin hx hb (hml.trans hl.1.symm) hown (hk.wd wd_488 args) (hk.wd wd_439 args) (hk.wd wd_42 args) (hk.wd wd_440 args) (Nat.le_trans (by decide) hfr) (Nat.le_trans (m := 40) (by first | exact Nat.le_of_ble_eq_true rfl | simp [m_cat, m_ci, m_cl, m_cf, m_cd, m_cr]) (Nat.le_trans (by decide) hlo)) (m_cells hH hE.le hF).1 (m_cells hH hE.le hF).2 dX2_init_89 ?_
  refine lv_topi (fun v7 hv7 => ?_)
  have hF := rt_t hv7 hF
  refine lv_istore_n (lv' := [(2, .int v7), (5, .int s0), (0, .ref x0), (1, va_rf x1), (3, .int x3), (4, .int x4), (6, .int x6)]) hx hb dX2_init_92 rfl hl (by decide) (by first | rfl | simp [m_cat, m_ci, m_cl, m_cf, m_cd, m_cr]) (fun ls hl => ?_)
  refine lv_iload_n hx hb dX2_init_93 rfl (lv_at hl 4 rfl) ?_
  refine m_aload_n hx hb dX2_init_94 rfl (lv_at hl 3 rfl) ?_
  refine lv_iload hx hb dX2_init_95 (lv_at hl 6 rfl) ?_
  refine m_aI0 hx hb hk hH hF dX2_init_97 (fun v8 hF => ?_)
  refine va_mmax hx hb (hml.trans hl.1.symm) hown (hk.wd wd_489 args) (hk.wd wd_442 args) (hk.wd wd_42 args) (hk.wd wd_443 args) (Nat.le_trans (by decide) hfr) (Nat.le_trans (m := 40) (by first | exact Nat.le_of_ble_eq_true rfl | simp [m_cat, m_ci, m_cl, m_cf, m_cd, m_cr]) (Nat.le_trans (by decide) hlo)) (m_cells hH hE.le hF).1 (m_cells hH hE.le hF).2 dX2_init_98 ?_
  refine lv_topi (fun v9 hv9 => ?_)
  have hF := rt_t hv9 hF
  refine lv_istore_n (lv' := [(3, .int v9), (2, .int v7), (5, .int s0), (0, .ref x0), (1, va_rf x1), (4, .int x4), (6, .int x6)]) hx hb dX2_init_101 rfl hl (by decide) (by first | rfl | simp [m_cat, m_ci, m_cl, m_cf, m_cd, m_cr]) (fun ls hl => ?_)
  refine lv_iinc (v := (x6 + (1 : Int32))) (lv' := [(6, .int (x6 + (1 : Int32))), (3, .int v9), (2, .int v7), (5, .int s0), (0, .ref x0), (1, va_rf x1), (4, .int x4)]) hx hb dX2_init_102 hl (k := 6) rfl (by first | rfl | (congr 1)) (by decide) (by first | rfl | simp [m_cat, m_ci, m_cl, m_cf, m_cd, m_cr]) (fun ls hl => ?_)
  refine lv_goto (tgt := 26) hx hb dX2_init_105 (by decide) ?_
  exact hrec _ _ _ _ _ _ _ _ _ _ _ (lv_sub hl [4, 5, 2, 1, 6, 3, 0] rfl) hH hF
set_option maxHeartbeats 4000000 in
set_option maxRecDepth 100000 in
theorem w_X2_init_77 {l : Launch} {D : va_G} {cy : Nat → ClassId} {z : Nat} {p : Program} {e : Env} {R : Room} {s : State} {m : MethodId} {args : Array Value} {below : List Frame} {meth : Method} {c : Code} {ws0 wsf : WS} {rr : Unit} (cx : Cx D cy z RX2 cX2_init 7 none 1 40 "<init>" p R s m meth c) (hE : AC ws0 wsf R.cells R.slots) (rec : Int32 → Int32 → Int32 → Int32 → Int32 → St (Unit)) (k : Int32 → Int32 → Int32 → Int32 → St (Unit)) (x0 : Nat) (x1 : Option Nat) (hrec : ∀ (x2 : Int32) (x3 : Int32) (x4 : Int32) (x5 : Int32) (x6 : Int32), At_ l D cy z p e R s m args below meth c ws0 wsf vU rr 7 26 [(0, .ref x0), (1, va_rf x1), (2, .int x2), (3, .int x3), (4, .int x4), (5, .int x5), (6, .int x6)] [] (rec x2 x3 x4 x5 x6)) (hkk : ∀ (x2 : Int32) (x3 : Int32) (x4 : Int32) (x5 : Int32), At_ l D cy z p e R s m args below meth c ws0 wsf vU rr 7 108 [(0, .ref x0), (1, va_rf x1), (2, .int x2), (3, .int x3), (4, .int x4), (5, .int x5)] [] (k x2 x3 x4 x5)) (x2 : Int32) (x3 : Int32) (x4 : Int32) (x6 : Int32) : At_ l D cy z p e R s m args below meth c ws0 wsf vU rr 7 77 [(0, .ref x0), (1, va_rf x1), (2, .int x2), (3, .int x3), (4, .int x4), (6, .int x6)] [] (j_X2_init_77 rec k x0 x1 x2 x3 x4 x6) := by
  intro ws H locs cells slots ls hl hH hF
  obtain ⟨hx, hb, hr, hml, hown, hk, hz, hlocks, hnm, hfr, hlo⟩ := id cx
  unfold j_X2_init_77 at hF
  refine lv_iconst (v := (1)) hx hb dX2_init_77 (by decide) ?_
  refine lv_goto (tgt := 82) hx hb dX2_init_78 (by decide) ?_
  exact w_X2_init_82 cx hE _ _ x0 x1 hrec hkk x2 x3 x4 x6 (1 : Int32) _ _ _ _ _ _ (lv_sub hl [0, 1, 2, 3, 4, 5] rfl) hH hF
set_option maxHeartbeats 4000000 in
set_option maxRecDepth 100000 in
theorem w_X2_init_57 {l : Launch} {D : va_G} {cy : Nat → ClassId} {z : Nat} {p : Program} {e : Env} {R : Room} {s : State} {m : MethodId} {args : Array Value} {below : List Frame} {meth : Method} {c : Code} {ws0 wsf : WS} {rr : Unit} (cx : Cx D cy z RX2 cX2_init 7 none 1 40 "<init>" p R s m meth c) (hE : AC ws0 wsf R.cells R.slots) (rec : Int32 → Int32 → Int32 → Int32 → Int32 → St (Unit)) (k : Int32 → Int32 → Int32 → Int32 → St (Unit)) (x0 : Nat) (x1 : Option Nat) (hrec : ∀ (x2 : Int32) (x3 : Int32) (x4 : Int32) (x5 : Int32) (x6 : Int32), At_ l D cy z p e R s m args below meth c ws0 wsf vU rr 7 26 [(0, .ref x0), (1, va_rf x1), (2, .int x2), (3, .int x3), (4, .int x4), (5, .int x5), (6, .int x6)] [] (rec x2 x3 x4 x5 x6)) (hkk : ∀ (x2 : Int32) (x3 : Int32) (x4 : Int32) (x5 : Int32), At_ l D cy z p e R s m args below meth c ws0 wsf vU rr 7 108 [(0, .ref x0), (1, va_rf x1), (2, .int x2), (3, .int x3), (4, .int x4), (5, .int x5)] [] (k x2 x3 x4 x5)) (x2 : Int32) (x3 : Int32) (x5 : Int32) (x6 : Int32) (s0 : Int32) : At_ l D cy z p e R s m args below meth c ws0 wsf vU rr 7 57 [(0, .ref x0), (1, va_rf x1), (2, .int x2), (3, .int x3), (5, .int x5), (6, .int x6)] [.int s0] (j_X2_init_57 rec k x0 x1 x2 x3 x5 x6 s0) := by
  intro ws H locs cells slots ls hl hH hF
  obtain ⟨hx, hb, hr, hml, hown, hk, hz, hlocks, hnm, hfr, hlo⟩ := id cx
  unfold j_X2_init_57 at hF
  refine lv_istore (lv' := [(4, .int s0), (0, .ref x0), (1, va_rf x1), (2, .int x2), (3, .int x3), (5, .int x5), (6, .int x6)]) hx hb dX2_init_57 hl (by decide) (by first | rfl | simp [m_cat, m_ci, m_cl, m_cf, m_cd, m_cr]) (fun ls hl => ?_)
  refine lv_iload hx hb dX2_init_59 (lv_at hl 5 rfl) ?_
  refine lv_if_ne (tgt := 77) hx hb dX2_init_61 (by decide) (fun hc4 => ?_) (fun hc4 => ?_)
  · have hF := bq_f hc4 hF
    exact w_X2_init_77 cx hE _ _ x0 x1 hrec hkk x2 x3 s0 x6 _ _ _ _ _ _ (lv_sub hl [1, 2, 3, 4, 0, 6] rfl) hH hF
  · have hF := bq_t hc4 hF
    refine m_aload_n hx hb dX2_init_64 rfl (lv_at hl 2 rfl) ?_
    refine lv_iload hx hb dX2_init_65 (lv_at hl 6 rfl) ?_
    refine m_aI0 hx hb hk hH hF dX2_init_67 (fun v10 hF => ?_)
    refine m_aload_n hx hb dX2_init_68 rfl (lv_at hl 2 rfl) ?_
    refine lv_iload hx hb dX2_init_69 (lv_at hl 6 rfl) ?_
    refine lv_iconst (v := (1)) hx hb dX2_init_71 (by decide) ?_
    refine lv_isub hx hb dX2_init_72 ?_
    refine m_aI0 hx hb hk hH hF dX2_init_73 (fun v11 hF => ?_)
    refine lv_icmp_ge (tgt := 81) hx hb dX2_init_74 (by decide) (fun hc11 => ?_) (fun hc11 => ?_)
    · have hF := bq_t hc11 hF
      refine lv_iconst (v := (0)) hx hb dX2_init_81 (by decide) ?_
      exact w_X2_init_82 cx hE _ _ x0 x1 hrec hkk x2 x3 s0 x6 (0 : Int32) _ _ _ _ _ _ (lv_sub hl [1, 2, 3, 4, 0, 6] rfl) hH hF
    · have hF := bq_f hc11 hF
      exact w_X2_init_77 cx hE _ _ x0 x1 hrec hkk x2 x3 s0 x6 _ _ _ _ _ _ (lv_sub hl [1, 2, 3, 4, 0, 6] rfl) hH hF
set_option maxHeartbeats 4000000 in
set_option maxRecDepth 100000 in
theorem w_X2_init_52 {l : Launch} {D : va_G} {cy : Nat → ClassId} {z : Nat} {p : Program} {e : Env} {R : Room} {s : State} {m : MethodId} {args : Array Value} {below : List Frame} {meth : Method} {c : Code} {ws0 wsf : WS} {rr : Unit} (cx : Cx D cy z RX2 cX2_init 7 none 1 40 "<init>" p R s m meth c) (hE : AC ws0 wsf R.cells R.slots) (rec : Int32 → Int32 → Int32 → Int32 → Int32 → St (Unit)) (k : Int32 → Int32 → Int32 → Int32 → St (Unit)) (x0 : Nat) (x1 : Option Nat) (hrec : ∀ (x2 : Int32) (x3 : Int32) (x4 : Int32) (x5 : Int32) (x6 : Int32), At_ l D cy z p e R s m args below meth c ws0 wsf vU rr 7 26 [(0, .ref x0), (1, va_rf x1), (2, .int x2), (3, .int x3), (4, .int x4), (5, .int x5), (6, .int x6)] [] (rec x2 x3 x4 x5 x6)) (hkk : ∀ (x2 : Int32) (x3 : Int32) (x4 : Int32) (x5 : Int32), At_ l D cy z p e R s m args below meth c ws0 wsf vU rr 7 108 [(0, .ref x0), (1, va_rf x1), (2, .int x2), (3, .int x3), (4, .int x4), (5, .int x5)] [] (k x2 x3 x4 x5)) (x2 : Int32) (x3 : Int32) (x5 : Int32) (x6 : Int32) : At_ l D cy z p e R s m args below meth c ws0 wsf vU rr 7 52 [(0, .ref x0), (1, va_rf x1), (2, .int x2), (3, .int x3), (5, .int x5), (6, .int x6)] [] (j_X2_init_52 rec k x0 x1 x2 x3 x5 x6) := by
  intro ws H locs cells slots ls hl hH hF
  obtain ⟨hx, hb, hr, hml, hown, hk, hz, hlocks, hnm, hfr, hlo⟩ := id cx
  unfold j_X2_init_52 at hF
  refine lv_iconst (v := (1)) hx hb dX2_init_52 (by decide) ?_
  refine lv_goto (tgt := 57) hx hb dX2_init_53 (by decide) ?_
  exact w_X2_init_57 cx hE _ _ x0 x1 hrec hkk x2 x3 x5 x6 (1 : Int32) _ _ _ _ _ _ (lv_sub hl [0, 1, 2, 3, 4, 5] rfl) hH hF
set_option maxHeartbeats 4000000 in
set_option maxRecDepth 100000 in
theorem wb_X2_init_26 {l : Launch} {D : va_G} {cy : Nat → ClassId} {z : Nat} {p : Program} {e : Env} {R : Room} {s : State} {m : MethodId} {args : Array Value} {below : List Frame} {meth : Method} {c : Code} {ws0 wsf : WS} {rr : Unit} (cx : Cx D cy z RX2 cX2_init 7 none 1 40 "<init>" p R s m meth c) (hE : AC ws0 wsf R.cells R.slots) (x0 : Nat) (x1 : Option Nat) (rec : Int32 → Int32 → Int32 → Int32 → Int32 → St (Unit)) (k : Int32 → Int32 → Int32 → Int32 → St (Unit)) (hrec : ∀ (x2 : Int32) (x3 : Int32) (x4 : Int32) (x5 : Int32) (x6 : Int32), At_ l D cy z p e R s m args below meth c ws0 wsf vU rr 7 26 [(0, .ref x0), (1, va_rf x1), (2, .int x2), (3, .int x3), (4, .int x4), (5, .int x5), (6, .int x6)] [] (rec x2 x3 x4 x5 x6)) (hkk : ∀ (x2 : Int32) (x3 : Int32) (x4 : Int32) (x5 : Int32), At_ l D cy z p e R s m args below meth c ws0 wsf vU rr 7 108 [(0, .ref x0), (1, va_rf x1), (2, .int x2), (3, .int x3), (4, .int x4), (5, .int x5)] [] (k x2 x3 x4 x5)) (x2 : Int32) (x3 : Int32) (x4 : Int32) (x5 : Int32) (x6 : Int32) : At_ l D cy z p e R s m args below meth c ws0 wsf vU rr 7 26 [(0, .ref x0), (1, va_rf x1), (2, .int x2), (3, .int x3), (4, .int x4), (5, .int x5), (6, .int x6)] [] (b_X2_init_26 x0 x1 rec k x2 x3 x4 x5 x6) := by
  intro ws H locs cells slots ls hl hH hF
  obtain ⟨hx, hb, hr, hml, hown, hk, hz, hlocks, hnm, hfr, hlo⟩ := id cx
  unfold b_X2_init_26 at hF
  refine lv_iload hx hb dX2_init_26 (lv_at hl 6 rfl) ?_
  refine lv_sipush (v := (4096)) hx hb dX2_init_28 (by decide) ?_
  refine lv_icmp_ge (tgt := 108) hx hb dX2_init_31 (by decide) (fun hc2 => ?_) (fun hc2 => ?_)
  · have hF := bq_t hc2 hF
    exact hkk _ _ _ _ _ _ _ _ _ _ (lv_sub hl [0, 1, 2, 3, 4, 5] rfl) hH hF
  · have hF := bq_f hc2 hF
    refine lv_iload hx hb dX2_init_34 (lv_at hl 4 rfl) ?_
    refine lv_if_ne (tgt := 52) hx hb dX2_init_36 (by decide) (fun hc3 => ?_) (fun hc3 => ?_)
    · have hF := bq_f hc3 hF
      exact w_X2_init_52 cx hE _ _ x0 x1 hrec hkk x2 x3 x5 x6 _ _ _ _ _ _ (lv_sub hl [0, 1, 2, 3, 5, 6] rfl) hH hF
    · have hF := bq_t hc3 hF
      refine m_aload_n hx hb dX2_init_39 rfl (lv_at hl 1 rfl) ?_
      refine lv_iload hx hb dX2_init_40 (lv_at hl 6 rfl) ?_
      refine m_aI0 hx hb hk hH hF dX2_init_42 (fun v13 hF => ?_)
      refine m_aload_n hx hb dX2_init_43 rfl (lv_at hl 1 rfl) ?_
      refine lv_iload hx hb dX2_init_44 (lv_at hl 6 rfl) ?_
      refine lv_iconst (v := (1)) hx hb dX2_init_46 (by decide) ?_
      refine lv_isub hx hb dX2_init_47 ?_
      refine m_aI0 hx hb hk hH hF dX2_init_48 (fun v14 hF => ?_)
      refine lv_icmp_le (tgt := 56) hx hb dX2_init_49 (by decide) (fun hc14 => ?_) (fun hc14 => ?_)
      · have hF := bq_t hc14 hF
        refine lv_iconst (v := (0)) hx hb dX2_init_56 (by decide) ?_
        exact w_X2_init_57 cx hE _ _ x0 x1 hrec hkk x2 x3 x5 x6 (0 : Int32) _ _ _ _ _ _ (lv_sub hl [0, 1, 2, 3, 5, 6] rfl) hH hF
      · have hF := bq_f hc14 hF
        exact w_X2_init_52 cx hE _ _ x0 x1 hrec hkk x2 x3 x5 x6 _ _ _ _ _ _ (lv_sub hl [0, 1, 2, 3, 5, 6] rfl) hH hF
theorem w_X2_init_26 {l : Launch} {D : va_G} {cy : Nat → ClassId} {z : Nat} {p : Program} {e : Env} {R : Room} {s : State} {m : MethodId} {args : Array Value} {below : List Frame} {meth : Method} {c : Code} {ws0 wsf : WS} {rr : Unit} (cx : Cx D cy z RX2 cX2_init 7 none 1 40 "<init>" p R s m meth c) (hE : AC ws0 wsf R.cells R.slots) (x0 : Nat) (x1 : Option Nat) (k : Int32 → Int32 → Int32 → Int32 → St (Unit)) (hkk : ∀ (x2 : Int32) (x3 : Int32) (x4 : Int32) (x5 : Int32), At_ l D cy z p e R s m args below meth c ws0 wsf vU rr 7 108 [(0, .ref x0), (1, va_rf x1), (2, .int x2), (3, .int x3), (4, .int x4), (5, .int x5)] [] (k x2 x3 x4 x5)) : ∀ (n : Nat) (x2 : Int32) (x3 : Int32) (x4 : Int32) (x5 : Int32) (x6 : Int32), At_ l D cy z p e R s m args below meth c ws0 wsf vU rr 7 26 [(0, .ref x0), (1, va_rf x1), (2, .int x2), (3, .int x3), (4, .int x4), (5, .int x5), (6, .int x6)] [] (l_X2_init_26 x0 x1 k n x2 x3 x4 x5 x6) := by
  intro n
  induction n with
  | zero =>
    intro x2 x3 x4 x5 x6 ws H locs cells slots ls hl hH hF
    exact fl_t hF
  | succ n ih =>
    intro x2 x3 x4 x5 x6
    exact wb_X2_init_26 cx hE x0 x1 (l_X2_init_26 x0 x1 k n) k ih hkk x2 x3 x4 x5 x6
set_option maxHeartbeats 4000000 in
set_option maxRecDepth 100000 in
theorem w_X2_init_152 {l : Launch} {D : va_G} {cy : Nat → ClassId} {z : Nat} {p : Program} {e : Env} {R : Room} {s : State} {m : MethodId} {args : Array Value} {below : List Frame} {meth : Method} {c : Code} {ws0 wsf : WS} {rr : Unit} (cx : Cx D cy z RX2 cX2_init 7 none 1 40 "<init>" p R s m meth c) (hE : AC ws0 wsf R.cells R.slots) (x0 : Nat) (x1 : Option Nat) (x4 : Int32) (x5 : Int32) (s0 : Nat) (s1 : Int32) : At_ l D cy z p e R s m args below meth c ws0 wsf vU rr 7 152 [(0, .ref x0), (1, va_rf x1), (4, .int x4), (5, .int x5)] [.int s1, .ref s0] (j_X2_init_152 x0 x1 x4 x5 s0 s1) := by
  intro ws H locs cells slots ls hl hH hF
  obtain ⟨hx, hb, hr, hml, hown, hk, hz, hlocks, hnm, hfr, hlo⟩ := id cx
  unfold j_X2_init_152 at hF
  refine m_pVF hx hb hown hk hH hnm hF fk_RX2_trend wd_494 rfl pd_9 rfl rfl dX2_init_152 (fun ws H locs hH hF => ?_)
  refine lv_aload_n hx hb dX2_init_155 rfl (lv_at hl 0 rfl) ?_
  refine lv_iload hx hb dX2_init_156 (lv_at hl 2 rfl) ?_
  refine lv_if_eq (tgt := 176) hx hb dX2_init_158 (by decide) (fun hc21 => ?_) (fun hc21 => ?_)
  · have hF := bq_t hc21 hF
    refine lv_iconst (v := (0)) hx hb dX2_init_176 (by decide) ?_
    refine m_pVF hx hb hown hk hH hnm hF fk_RX2_turnCount wd_496 rfl pd_9 rfl rfl dX2_init_177 (fun ws H locs hH hF => ?_)
    exact m_vret hx hb hr hlocks hH hE hF dX2_init_180
  · have hF := bq_f hc21 hF
    refine lv_iload hx hb dX2_init_161 (lv_at hl 3 rfl) ?_
    refine lv_if_eq (tgt := 176) hx hb dX2_init_163 (by decide) (fun hc22 => ?_) (fun hc22 => ?_)
    · have hF := bq_t hc22 hF
      refine lv_iconst (v := (0)) hx hb dX2_init_176 (by decide) ?_
      refine m_pVF hx hb hown hk hH hnm hF fk_RX2_turnCount wd_496 rfl pd_9 rfl rfl dX2_init_177 (fun ws H locs hH hF => ?_)
      exact m_vret hx hb hr hlocks hH hE hF dX2_init_180
    · have hF := bq_f hc22 hF
      refine m_aload_n hx hb dX2_init_166 rfl (lv_at hl 1 rfl) ?_
      refine lv_iconst (v := (0)) hx hb dX2_init_167 (by decide) ?_
      refine m_nA (t := 0) hx hb hk hH hE.le hz (by decide) rfl (by decide) wd_96 hF dX2_init_168 (fun a24 ws H hH hF => ?_)
      refine m_cSI hx hb hml hown hk hH hE.le hz (As := [va_rf x1, .ref a24]) (rest := [.ref x0]) (t_X2_findTurns l D cy z x1 (some a24)) hF wd_490 wd_491 wd_44 wd_492 yn_X2_findTurns ⟨Nat.le_trans (by decide) hfr, Nat.le_trans (by decide) hlo⟩ hl.1 (by first | exact Nat.le_of_ble_eq_true rfl | simp [m_cat, m_ci, m_cl, m_cf, m_cd, m_cr]) rfl dX2_init_170 (fun c25 ws H locs cells slots hH hF => ?_)
      refine lv_goto (tgt := 177) hx hb dX2_init_173 (by decide) ?_
      refine m_pVF hx hb hown hk hH hnm hF fk_RX2_turnCount wd_496 rfl pd_9 rfl rfl dX2_init_177 (fun ws H locs hH hF => ?_)
      exact m_vret hx hb hr hlocks hH hE hF dX2_init_180
set_option maxHeartbeats 4000000 in
set_option maxRecDepth 100000 in
theorem t_X2_init (l : Launch) (D : va_G) (cy : Nat → ClassId) (z : Nat) (o : Nat) (x1 : Option Nat) : MT l D cy z yX2_init cX2_init 7 none 1 40 (F_X2_init o x1) vU [.ref o, va_rf x1] := by
  refine m_enter [(0, .ref o), (1, va_rf x1)] (by decide) (by first | rfl | simp [lv_args, m_cat, m_ci, m_cl, m_cf, m_cd, m_cr]) (by first | exact Nat.le_of_ble_eq_true rfl | simp [lg_sl, m_cat, m_ci, m_cl, m_cf, m_cd, m_cr]) ?_
  intro p e R s m args below meth c ws0 wsf rr cx hE ws H locs cells slots ls hl hH hF
  obtain ⟨hx, hb, hr, hml, hown, hk, hz, hlocks, hnm, hfr, hlo⟩ := id cx
  unfold F_X2_init at hF
  refine lv_aload_n hx hb dX2_init_0 rfl (lv_at hl 0 rfl) ?_
  refine W.objInit hx hb hown (hk.wd wd_487 args) (hk.wd wd_52 args) (hk.wd wd_53 args) rfl (by rw [hml]; exact hl.1) rfl dX2_init_1 (Nat.le_trans (by decide) hfr) (Nat.le_trans (m := 40) (by first | exact Nat.le_of_ble_eq_true rfl | simp [m_cat, m_ci, m_cl, m_cf, m_cd, m_cr]) (Nat.le_trans (by decide) hlo)) ?_
  refine W.eq (g2 := F0 m 4 ls []) rfl ?_
  refine lv_aload_n hx hb dX2_init_4 rfl (lv_at hl 0 rfl) ?_
  refine lv_null hx hb dX2_init_5 ?_
  refine m_pV hx hb hown hk hH hF fk_RX2_turns lk_RX2_9 pd_0 (m_nra _ _) (m_fra _ _) dX2_init_6 (fun ws H locs hH hF => ?_)
  refine m_aload_n hx hb dX2_init_9 rfl (lv_at hl 1 rfl) ?_
  refine lv_iconst (v := (0)) hx hb dX2_init_10 (by decide) ?_
  refine m_aI0 hx hb hk hH hF dX2_init_11 (fun v1 hF => ?_)
  refine lv_istore_n (lv' := [(2, .int v1), (0, .ref o), (1, va_rf x1)]) hx hb dX2_init_12 rfl hl (by decide) (by first | rfl | simp [m_cat, m_ci, m_cl, m_cf, m_cd, m_cr]) (fun ls hl => ?_)
  refine m_aload_n hx hb dX2_init_13 rfl (lv_at hl 2 rfl) ?_
  refine lv_iconst (v := (0)) hx hb dX2_init_14 (by decide) ?_
  refine m_aI0 hx hb hk hH hF dX2_init_15 (fun v2 hF => ?_)
  refine lv_istore_n (lv' := [(3, .int v2), (2, .int v1), (0, .ref o), (1, va_rf x1)]) hx hb dX2_init_16 rfl hl (by decide) (by first | rfl | simp [m_cat, m_ci, m_cl, m_cf, m_cd, m_cr]) (fun ls hl => ?_)
  refine lv_iconst (v := (0)) hx hb dX2_init_17 (by decide) ?_
  refine lv_istore (lv' := [(4, .int (0 : Int32)), (3, .int v2), (2, .int v1), (0, .ref o), (1, va_rf x1)]) hx hb dX2_init_18 hl (by decide) (by first | rfl | simp [m_cat, m_ci, m_cl, m_cf, m_cd, m_cr]) (fun ls hl => ?_)
  refine lv_iconst (v := (0)) hx hb dX2_init_20 (by decide) ?_
  refine lv_istore (lv' := [(5, .int (0 : Int32)), (4, .int (0 : Int32)), (3, .int v2), (2, .int v1), (0, .ref o), (1, va_rf x1)]) hx hb dX2_init_21 hl (by decide) (by first | rfl | simp [m_cat, m_ci, m_cl, m_cf, m_cd, m_cr]) (fun ls hl => ?_)
  refine lv_iconst (v := (1)) hx hb dX2_init_23 (by decide) ?_
  refine lv_istore (lv' := [(6, .int (1 : Int32)), (5, .int (0 : Int32)), (4, .int (0 : Int32)), (3, .int v2), (2, .int v1), (0, .ref o), (1, va_rf x1)]) hx hb dX2_init_24 hl (by decide) (by first | rfl | simp [m_cat, m_ci, m_cl, m_cf, m_cd, m_cr]) (fun ls hl => ?_)
  refine w_X2_init_26 cx hE o x1 _ (fun e16 e17 e18 e19 ws H locs cells slots ls hl hH hF => ?_) _ _ _ _ _ _ _ _ _ _ _ _ (lv_sub hl [5, 6, 4, 3, 2, 1, 0] rfl) hH hF
  refine lv_aload_n hx hb dX2_init_108 rfl (lv_at hl 0 rfl) ?_
  refine m_aload_n hx hb dX2_init_109 rfl (lv_at hl 1 rfl) ?_
  refine m_pVF hx hb hown hk hH hnm hF fk_RX2_row wd_493 rfl pd_0 (m_nra _ _) (m_fra _ _) dX2_init_110 (fun ws H locs hH hF => ?_)
  refine lv_aload_n hx hb dX2_init_113 rfl (lv_at hl 0 rfl) ?_
  refine lv_iload_n hx hb dX2_init_114 rfl (lv_at hl 2 rfl) ?_
  refine m_pVF hx hb hown hk hH hnm hF fk_RX2_least wd_498 rfl pd_9 rfl rfl dX2_init_115 (fun ws H locs hH hF => ?_)
  refine lv_aload_n hx hb dX2_init_118 rfl (lv_at hl 0 rfl) ?_
  refine lv_iload_n hx hb dX2_init_119 rfl (lv_at hl 3 rfl) ?_
  refine m_pVF hx hb hown hk hH hnm hF fk_RX2_greatest wd_500 rfl pd_9 rfl rfl dX2_init_120 (fun ws H locs hH hF => ?_)
  refine lv_aload_n hx hb dX2_init_123 rfl (lv_at hl 0 rfl) ?_
  refine lv_iload hx hb dX2_init_124 (lv_at hl 4 rfl) ?_
  refine lv_if_eq (tgt := 142) hx hb dX2_init_126 (by decide) (fun hc19 => ?_) (fun hc19 => ?_)
  · have hF := bq_t hc19 hF
    refine lv_iload hx hb dX2_init_142 (lv_at hl 5 rfl) ?_
    refine lv_if_eq (tgt := 151) hx hb dX2_init_144 (by decide) (fun hc20 => ?_) (fun hc20 => ?_)
    · have hF := bq_t hc20 hF
      refine lv_iconst (v := (2)) hx hb dX2_init_151 (by decide) ?_
      exact w_X2_init_152 cx hE o x1 e18 e19 o (2 : Int32) _ _ _ _ _ _ (lv_sub hl [0, 1, 4, 5] rfl) hH hF
    · have hF := bq_f hc20 hF
      refine lv_iconst (v := (-1)) hx hb dX2_init_147 (by decide) ?_
      refine lv_goto (tgt := 152) hx hb dX2_init_148 (by decide) ?_
      exact w_X2_init_152 cx hE o x1 e18 e19 o (-1 : Int32) _ _ _ _ _ _ (lv_sub hl [0, 1, 4, 5] rfl) hH hF
  · have hF := bq_f hc19 hF
    refine lv_iload hx hb dX2_init_129 (lv_at hl 5 rfl) ?_
    refine lv_if_eq (tgt := 138) hx hb dX2_init_131 (by decide) (fun hc25 => ?_) (fun hc25 => ?_)
    · have hF := bq_t hc25 hF
      refine lv_iconst (v := (1)) hx hb dX2_init_138 (by decide) ?_
      refine lv_goto (tgt := 152) hx hb dX2_init_139 (by decide) ?_
      exact w_X2_init_152 cx hE o x1 e18 e19 o (1 : Int32) _ _ _ _ _ _ (lv_sub hl [0, 1, 4, 5] rfl) hH hF
    · have hF := bq_f hc25 hF
      refine lv_iconst (v := (0)) hx hb dX2_init_134 (by decide) ?_
      refine lv_goto (tgt := 152) hx hb dX2_init_135 (by decide) ?_
      exact w_X2_init_152 cx hE o x1 e18 e19 o (0 : Int32) _ _ _ _ _ _ (lv_sub hl [0, 1, 4, 5] rfl) hH hF

def F_X1_formed (o : Nat) : St (Option Nat) :=
  bd (gR [3, 4, 6] 3 (some o)) fun v1 => br (v1 = none) (bd (mk 6 (.inr (1, [.null, .int 0, .int 0, .int 0, .int 0, .null]))) fun a4 => bd (dr [3, 4, 6] (some o)) fun q6 => bd (F_X1_filled 64 q6.1) fun c5 => bd (F_X2_init a4 c5) fun c7 => bd (pV [3, 4, 6] 3 (some o) (va_rf (some a4))) fun _ => bd (gR [3, 4, 6] 3 (some o)) fun v8 => rt v8) (bd (gR [3, 4, 6] 3 (some o)) fun v3 => rt v3)
set_option maxHeartbeats 4000000 in
set_option maxRecDepth 100000 in
theorem t_X1_formed (l : Launch) (D : va_G) (cy : Nat → ClassId) (z : Nat) (o : Nat) : MT l D cy z yX1_formed cX1_formed 1 (some (.object "CurveFoundry$Form")) 785 23822 (F_X1_formed o) vR [.ref o] := by
  refine m_enter [(0, .ref o)] (by decide) (by first | rfl | simp [lv_args, m_cat, m_ci, m_cl, m_cf, m_cd, m_cr]) (by first | exact Nat.le_of_ble_eq_true rfl | simp [lg_sl, m_cat, m_ci, m_cl, m_cf, m_cd, m_cr]) ?_
  intro p e R s m args below meth c ws0 wsf rr cx hE ws H locs cells slots ls hl hH hF
  obtain ⟨hx, hb, hr, hml, hown, hk, hz, hlocks, hnm, hfr, hlo⟩ := id cx
  unfold F_X1_formed at hF
  refine lv_aload_n hx hb dX1_formed_0 rfl (lv_at hl 0 rfl) ?_
  refine m_gR hx hb hown hk hH hF fk_RX1_form lk_RX1_15 dX1_formed_1 (fun v1 hF => ?_)
  refine m_ifnonnull (tgt := 22) hx hb dX1_formed_4 (by decide) (fun hc1 => ?_) (fun hc1 => ?_)
  · have hF := bq_f hc1 hF
    refine lv_aload_n hx hb dX1_formed_22 rfl (lv_at hl 0 rfl) ?_
    refine m_gR hx hb hown hk hH hF fk_RX1_form lk_RX1_15 dX1_formed_23 (fun v3 hF => ?_)
    exact m_aret hx hb hr (Or.inl ⟨_, rfl⟩) hlocks hH hE hF dX1_formed_26
  · have hF := bq_t hc1 hF
    refine lv_aload_n hx hb dX1_formed_7 rfl (lv_at hl 0 rfl) ?_
    refine m_new hx hb hown hk hH hE.le hz hF rfl nf_RX2 wd_462 wd_463 wd_44 dX1_formed_8 (fun a4 ws H hH hF => ?_)
    refine lv_dup hx hb dX1_formed_11 rfl ?_
    refine lv_aload_n hx hb dX1_formed_12 rfl (lv_at hl 0 rfl) ?_
    refine m_cUR hx hb hml hown hk hH hE.le hz (x := yX1_filled) (owner := "CurveFoundry$Curve") (y := (fun _ => yX1_filled)) (bytes := (fun _ => cX1_filled)) (maxL := (fun _ => 3)) (fr := (fun _ => 784)) (lo := (fun _ => 23800)) (F := fun q6 => F_X1_filled 64 q6.1) (As := []) (rest := [.ref a4, .ref a4, .ref o]) (fun o => m_c3 (t_X1_filled l D cy z 64 o) (t_X1_filled l D cy z 64 o) (t_X1_filled l D cy z 64 o)) hF wd_464 wd_466 (va_Decl.of (hk.wd wd_465 args) (hk.wd wd_470 args)) (m_c3 ⟨_, rfl, wd_467, wd_465, wd_39, wd_470, Nat.le_trans (by decide) hfr, Nat.le_trans (by decide) hlo⟩ ⟨_, rfl, wd_468, wd_465, wd_39, wd_470, Nat.le_trans (by decide) hfr, Nat.le_trans (by decide) hlo⟩ ⟨_, rfl, wd_469, wd_465, wd_39, wd_470, Nat.le_trans (by decide) hfr, Nat.le_trans (by decide) hlo⟩) yc_filled hl.1 (by first | exact Nat.le_of_ble_eq_true rfl | simp [m_cat, m_ci, m_cl, m_cf, m_cd, m_cr]) rfl dX1_formed_13 (fun c5 ws H locs cells slots hH hF => ?_)
    refine m_cI hx hb hml hown hk hH hE.le hz (b := a4) (As := [va_rf c5]) (rest := [.ref a4, .ref o]) (t_X2_init l D cy z a4 c5) hF wd_484 wd_485 wd_44 wd_486 yn_X2_init rfl ⟨Nat.le_trans (by decide) hfr, Nat.le_trans (by decide) hlo⟩ hl.1 (by first | exact Nat.le_of_ble_eq_true rfl | simp [m_cat, m_ci, m_cl, m_cf, m_cd, m_cr]) rfl dX1_formed_16 (fun c7 ws H locs cells slots hH hF => ?_)
    refine m_pV hx hb hown hk hH hF fk_RX1_form lk_RX1_15 pd_8 (m_nrf _ _) (m_frf _ _) dX1_formed_19 (fun ws H locs hH hF => ?_)
    refine lv_aload_n hx hb dX1_formed_22 rfl (lv_at hl 0 rfl) ?_
    refine m_gR hx hb hown hk hH hF fk_RX1_form lk_RX1_15 dX1_formed_23 (fun v8 hF => ?_)
    exact m_aret hx hb hr (Or.inl ⟨_, rfl⟩) hlocks hH hE hF dX1_formed_26

def j_X2_turnNumbered_43 (x0 : Nat) (x1 : Int32) : St (Int32) :=
  bd (gR [1] 5 (some x0)) fun v6 => bd (aI 0 v6 x1) fun v7 => rt v7
def F_X2_turnNumbered (o : Nat) (x1 : Int32) : St (Int32) :=
  br (x1 < 0) (rt (-1 : Int32)) (bd (gI [1] 2 (some o)) fun v2 => br (x1 < v2) (bd (gR [1] 5 (some o)) fun v4 => br (v4 = none) (bd (gI [1] 2 (some o)) fun v8 => bd (nA 0 v8) fun a9 => bd (pV [1] 5 (some o) (va_rf (some a9))) fun _ => bd (gR [1] 0 (some o)) fun v10 => bd (gR [1] 5 (some o)) fun v11 => bd (F_X2_findTurns v10 v11) fun c12 => j_X2_turnNumbered_43 o x1) (j_X2_turnNumbered_43 o x1)) (rt (-1 : Int32)))
set_option maxHeartbeats 4000000 in
set_option maxRecDepth 100000 in
theorem w_X2_turnNumbered_43 {l : Launch} {D : va_G} {cy : Nat → ClassId} {z : Nat} {p : Program} {e : Env} {R : Room} {s : State} {m : MethodId} {args : Array Value} {below : List Frame} {meth : Method} {c : Code} {ws0 wsf : WS} {rr : Int32} (cx : Cx D cy z RX2 cX2_turnNumbered 2 (some .int) 1 40 "turnNumbered" p R s m meth c) (hE : AC ws0 wsf R.cells R.slots) (x0 : Nat) (x1 : Int32) : At_ l D cy z p e R s m args below meth c ws0 wsf vI rr 2 43 [(0, .ref x0), (1, .int x1)] [] (j_X2_turnNumbered_43 x0 x1) := by
  intro ws H locs cells slots ls hl hH hF
  obtain ⟨hx, hb, hr, hml, hown, hk, hz, hlocks, hnm, hfr, hlo⟩ := id cx
  unfold j_X2_turnNumbered_43 at hF
  refine lv_aload_n hx hb dX2_turnNumbered_43 rfl (lv_at hl 0 rfl) ?_
  refine m_gR hx hb hown hk hH hF fk_RX2_turns lk_RX2_9 dX2_turnNumbered_44 (fun v6 hF => ?_)
  refine lv_iload_n hx hb dX2_turnNumbered_47 rfl (lv_at hl 1 rfl) ?_
  refine m_aI0 hx hb hk hH hF dX2_turnNumbered_48 (fun v7 hF => ?_)
  exact m_iret hx hb hr hlocks hH hE hF rfl dX2_turnNumbered_49
set_option maxHeartbeats 4000000 in
set_option maxRecDepth 100000 in
theorem t_X2_turnNumbered (l : Launch) (D : va_G) (cy : Nat → ClassId) (z : Nat) (o : Nat) (x1 : Int32) : MT l D cy z yX2_turnNumbered cX2_turnNumbered 2 (some .int) 1 40 (F_X2_turnNumbered o x1) vI [.ref o, .int x1] := by
  refine m_enter [(0, .ref o), (1, .int x1)] (by decide) (by first | rfl | simp [lv_args, m_cat, m_ci, m_cl, m_cf, m_cd, m_cr]) (by first | exact Nat.le_of_ble_eq_true rfl | simp [lg_sl, m_cat, m_ci, m_cl, m_cf, m_cd, m_cr]) ?_
  intro p e R s m args below meth c ws0 wsf rr cx hE ws H locs cells slots ls hl hH hF
  obtain ⟨hx, hb, hr, hml, hown, hk, hz, hlocks, hnm, hfr, hlo⟩ := id cx
  unfold F_X2_turnNumbered at hF
  refine lv_iload_n hx hb dX2_turnNumbered_0 rfl (lv_at hl 1 rfl) ?_
  refine lv_if_lt (tgt := 12) hx hb dX2_turnNumbered_1 (by decide) (fun hc0 => ?_) (fun hc0 => ?_)
  · have hF := bq_t hc0 hF
    refine lv_iconst (v := (-1)) hx hb dX2_turnNumbered_12 (by decide) ?_
    exact m_iret hx hb hr hlocks hH hE hF rfl dX2_turnNumbered_13
  · have hF := bq_f hc0 hF
    refine lv_iload_n hx hb dX2_turnNumbered_4 rfl (lv_at hl 1 rfl) ?_
    refine lv_aload_n hx hb dX2_turnNumbered_5 rfl (lv_at hl 0 rfl) ?_
    refine m_gI hx hb hown hk hH hF fk_RX2_turnCount lk_RX2_41 dX2_turnNumbered_6 (fun v2 hF => ?_)
    refine lv_icmp_lt (tgt := 14) hx hb dX2_turnNumbered_9 (by decide) (fun hc2 => ?_) (fun hc2 => ?_)
    · have hF := bq_t hc2 hF
      refine lv_aload_n hx hb dX2_turnNumbered_14 rfl (lv_at hl 0 rfl) ?_
      refine m_gR hx hb hown hk hH hF fk_RX2_turns lk_RX2_9 dX2_turnNumbered_15 (fun v4 hF => ?_)
      refine m_ifnonnull (tgt := 43) hx hb dX2_turnNumbered_18 (by decide) (fun hc4 => ?_) (fun hc4 => ?_)
      · have hF := bq_f hc4 hF
        exact w_X2_turnNumbered_43 cx hE o x1 _ _ _ _ _ _ (lv_sub hl [0, 1] rfl) hH hF
      · have hF := bq_t hc4 hF
        refine lv_aload_n hx hb dX2_turnNumbered_21 rfl (lv_at hl 0 rfl) ?_
        refine lv_aload_n hx hb dX2_turnNumbered_22 rfl (lv_at hl 0 rfl) ?_
        refine m_gI hx hb hown hk hH hF fk_RX2_turnCount lk_RX2_41 dX2_turnNumbered_23 (fun v8 hF => ?_)
        refine m_nA (t := 0) hx hb hk hH hE.le hz (by decide) rfl (by decide) wd_96 hF dX2_turnNumbered_26 (fun a9 ws H hH hF => ?_)
        refine m_pV hx hb hown hk hH hF fk_RX2_turns lk_RX2_9 pd_0 (m_nra _ _) (m_fra _ _) dX2_turnNumbered_28 (fun ws H locs hH hF => ?_)
        refine lv_aload_n hx hb dX2_turnNumbered_31 rfl (lv_at hl 0 rfl) ?_
        refine m_gR hx hb hown hk hH hF fk_RX2_row lk_RX2_24 dX2_turnNumbered_32 (fun v10 hF => ?_)
        refine lv_aload_n hx hb dX2_turnNumbered_35 rfl (lv_at hl 0 rfl) ?_
        refine m_gR hx hb hown hk hH hF fk_RX2_turns lk_RX2_9 dX2_turnNumbered_36 (fun v11 hF => ?_)
        refine m_cSI hx hb hml hown hk hH hE.le hz (As := [va_rf v10, va_rf v11]) (rest := []) (t_X2_findTurns l D cy z v10 v11) hF wd_490 wd_491 wd_44 wd_492 yn_X2_findTurns ⟨Nat.le_trans (by decide) hfr, Nat.le_trans (by decide) hlo⟩ hl.1 (by first | exact Nat.le_of_ble_eq_true rfl | simp [m_cat, m_ci, m_cl, m_cf, m_cd, m_cr]) rfl dX2_turnNumbered_39 (fun c12 ws H locs cells slots hH hF => ?_)
        refine lv_pop hx hb dX2_turnNumbered_42 rfl ?_
        exact w_X2_turnNumbered_43 cx hE o x1 _ _ _ _ _ _ (lv_sub hl [0, 1] rfl) hH hF
    · have hF := bq_f hc2 hF
      refine lv_iconst (v := (-1)) hx hb dX2_turnNumbered_12 (by decide) ?_
      exact m_iret hx hb hr hlocks hH hE hF rfl dX2_turnNumbered_13
