def F_X10_pieces (o : Nat) : St (Int32) :=
  bd (gR [9] 5 (some o)) fun v1 => bd (gI [2] 2 v1) fun v2 => br (v2 = 0) (rt (-2 : Int32)) (bd (dr [9] (some o)) fun q5 => bd (F_X10_hasRoomFor q5.1 (1 : Int32)) fun c4 => br (c4 = 0) (rt (-2 : Int32)) (bd (gR [9] 5 (some o)) fun v7 => bd (mk 3 (.inr (2, [.null, .null, .int 0]))) fun a8 => bd (F_X3_init a8) fun c9 => bd (pV [9] 5 (some o) (va_rf (some a8))) fun _ => bd (mk 5 (.inr (4, [.int 0, .int 0, .null, .null, .null]))) fun a10 => bd (F_X5_init a10 v7) fun c11 => bd (dr [9] (some o)) fun q13 => bd (F_X10_keep q13.1 (some a10)) fun c12 => rt c12))
set_option maxHeartbeats 4000000 in
set_option maxRecDepth 100000 in
theorem t_X10_pieces (l : Launch) (D : va_G) (cy : Nat → ClassId) (z : Nat) (o : Nat) : MT l D cy z yX10_pieces cX10_pieces 2 (some .int) 3 83 (F_X10_pieces o) vI [.ref o] := by
  refine m_enter [(0, .ref o)] (by decide) (by first | rfl | simp [lv_args, m_cat, m_ci, m_cl, m_cf, m_cd, m_cr]) (by first | exact Nat.le_of_ble_eq_true rfl | simp [lg_sl, m_cat, m_ci, m_cl, m_cf, m_cd, m_cr]) ?_
  intro p e R s m args below meth c ws0 wsf rr cx hE ws H locs cells slots ls hl hH hF
  obtain ⟨hx, hb, hr, hml, hown, hk, hz, hlocks, hnm, hfr, hlo⟩ := id cx
  unfold F_X10_pieces at hF
  refine lv_aload_n hx hb dX10_pieces_0 rfl (lv_at hl 0 rfl) ?_
  refine m_gR hx hb hown hk hH hF fk_RX10_told lk_RX10_43 dX10_pieces_1 (fun v1 hF => ?_)
  refine m_gI hx hb hown hk hH hF fk_RX3_size lk_RX10_98 dX10_pieces_4 (fun v2 hF => ?_)
  refine lv_if_eq (tgt := 18) hx hb dX10_pieces_7 (by decide) (fun hc2 => ?_) (fun hc2 => ?_)
  · have hF := bq_t hc2 hF
    refine lv_bipush (v := (-2)) hx hb dX10_pieces_18 (by decide) ?_
    exact m_iret hx hb hr hlocks hH hE hF rfl dX10_pieces_20
  · have hF := bq_f hc2 hF
    refine lv_aload_n hx hb dX10_pieces_10 rfl (lv_at hl 0 rfl) ?_
    refine lv_iconst (v := (1)) hx hb dX10_pieces_11 (by decide) ?_
    refine m_cVI hx hb hml hown hk hH hE.le hz (F := fun q5 => F_X10_hasRoomFor q5.1 (1 : Int32)) (C := RX10) (T := TX10) (N := 7) rfl (As := [.int (1 : Int32)]) (rest := []) (fun o => t_X10_hasRoomFor l D cy z o (1 : Int32)) hF wd_227 wd_229 wd_33 wd_230 wd_1 yn_X10_hasRoomFor ⟨Nat.le_trans (by decide) hfr, Nat.le_trans (by decide) hlo⟩ hl.1 (by first | exact Nat.le_of_ble_eq_true rfl | simp [m_cat, m_ci, m_cl, m_cf, m_cd, m_cr]) rfl dX10_pieces_12 (fun c4 ws H locs cells slots hH hF => ?_)
    refine lv_if_ne (tgt := 21) hx hb dX10_pieces_15 (by decide) (fun hc5 => ?_) (fun hc5 => ?_)
    · have hF := bq_f hc5 hF
      refine lv_aload_n hx hb dX10_pieces_21 rfl (lv_at hl 0 rfl) ?_
      refine m_gR hx hb hown hk hH hF fk_RX10_told lk_RX10_43 dX10_pieces_22 (fun v7 hF => ?_)
      refine m_astore_n (lv' := [(1, va_rf v7), (0, .ref o)]) hx hb dX10_pieces_25 rfl hl (by decide) (by first | rfl | simp [m_cat, m_ci, m_cl, m_cf, m_cd, m_cr]) (fun ls hl => ?_)
      refine lv_aload_n hx hb dX10_pieces_26 rfl (lv_at hl 1 rfl) ?_
      refine m_new hx hb hown hk hH hE.le hz hF rfl nf_RX3 wd_104 wd_105 wd_35 dX10_pieces_27 (fun a8 ws H hH hF => ?_)
      refine lv_dup hx hb dX10_pieces_30 rfl ?_
      refine m_cIN hx hb hml hown hk hH hE.le hz (b := a8) (As := []) (rest := [.ref a8, .ref o]) (t_X3_init l D cy z a8) hF ⟨_, wd_106⟩ wd_107 wd_35 wd_108 yn_X3_init rfl ⟨Nat.le_trans (by decide) hfr, Nat.le_trans (by decide) hlo⟩ hl.1 (by first | exact Nat.le_of_ble_eq_true rfl | simp [m_cat, m_ci, m_cl, m_cf, m_cd, m_cr]) rfl dX10_pieces_31 (fun c9 ws H locs cells slots hH hF => ?_)
      refine m_pV hx hb hown hk hH hF fk_RX10_told lk_RX10_43 pd_11 (m_nrf _ _) (m_frf _ _) dX10_pieces_34 (fun ws H locs hH hF => ?_)
      refine lv_aload_n hx hb dX10_pieces_37 rfl (lv_at hl 1 rfl) ?_
      refine m_new hx hb hown hk hH hE.le hz hF rfl nf_RX5 wd_297 wd_298 wd_41 dX10_pieces_38 (fun a10 ws H hH hF => ?_)
      refine lv_dup hx hb dX10_pieces_41 rfl ?_
      refine m_aload_n hx hb dX10_pieces_42 rfl (lv_at hl 0 rfl) ?_
      refine m_cI hx hb hml hown hk hH hE.le hz (b := a10) (As := [va_rf v7]) (rest := [.ref a10, .ref o]) (t_X5_init l D cy z a10 v7) hF wd_299 wd_300 wd_41 wd_301 yn_X5_init rfl ⟨Nat.le_trans (by decide) hfr, Nat.le_trans (by decide) hlo⟩ hl.1 (by first | exact Nat.le_of_ble_eq_true rfl | simp [m_cat, m_ci, m_cl, m_cf, m_cd, m_cr]) rfl dX10_pieces_43 (fun c11 ws H locs cells slots hH hF => ?_)
      refine m_cVI hx hb hml hown hk hH hE.le hz (F := fun q13 => F_X10_keep q13.1 (some a10)) (C := RX10) (T := TX10) (N := 7) rfl (As := [.ref a10]) (rest := []) (fun o => t_X10_keep l D cy z o (some a10)) hF wd_273 wd_275 wd_33 wd_276 wd_2 yn_X10_keep ⟨Nat.le_trans (by decide) hfr, Nat.le_trans (by decide) hlo⟩ hl.1 (by first | exact Nat.le_of_ble_eq_true rfl | simp [m_cat, m_ci, m_cl, m_cf, m_cd, m_cr]) rfl dX10_pieces_46 (fun c12 ws H locs cells slots hH hF => ?_)
      exact m_iret hx hb hr hlocks hH hE hF rfl dX10_pieces_49
    · have hF := bq_t hc5 hF
      refine lv_bipush (v := (-2)) hx hb dX10_pieces_18 (by decide) ?_
      exact m_iret hx hb hr hlocks hH hE hF rfl dX10_pieces_20

def F_X10_gather (o : Nat) (x1 : Int32) : St (Int32) :=
  bd (dr [9] (some o)) fun q2 => bd (F_X10_sensorNumbered q2.1 x1) fun c1 => br (c1 = none) (rt (-2 : Int32)) (bd (gR [9] 5 (some o)) fun v4 => bd (pV [2] 2 v4 (.int (0 : Int32))) fun _ => bd (gR [9] 5 (some o)) fun v5 => bd (dr [7] c1) fun q7 => bd (F_X8_tellMeans q7.1 v5) fun c6 => bd (gR [9] 5 (some o)) fun v8 => bd (gI [2] 2 v8) fun v9 => rt v9)
set_option maxHeartbeats 4000000 in
set_option maxRecDepth 100000 in
theorem t_X10_gather (l : Launch) (D : va_G) (cy : Nat → ClassId) (z : Nat) (o : Nat) (x1 : Int32) : MT l D cy z yX10_gather cX10_gather 3 (some .int) 4 118 (F_X10_gather o x1) vI [.ref o, .int x1] := by
  refine m_enter [(0, .ref o), (1, .int x1)] (by decide) (by first | rfl | simp [lv_args, m_cat, m_ci, m_cl, m_cf, m_cd, m_cr]) (by first | exact Nat.le_of_ble_eq_true rfl | simp [lg_sl, m_cat, m_ci, m_cl, m_cf, m_cd, m_cr]) ?_
  intro p e R s m args below meth c ws0 wsf rr cx hE ws H locs cells slots ls hl hH hF
  obtain ⟨hx, hb, hr, hml, hown, hk, hz, hlocks, hnm, hfr, hlo⟩ := id cx
  unfold F_X10_gather at hF
  refine lv_aload_n hx hb dX10_gather_0 rfl (lv_at hl 0 rfl) ?_
  refine lv_iload_n hx hb dX10_gather_1 rfl (lv_at hl 1 rfl) ?_
  refine m_cVR hx hb hml hown hk hH hE.le hz (F := fun q2 => F_X10_sensorNumbered q2.1 x1) (C := RX10) (T := TX10) (N := 7) rfl (As := [.int x1]) (rest := []) (fun o => t_X10_sensorNumbered l D cy z o x1) hF wd_193 wd_195 wd_33 wd_196 wd_0 yn_X10_sensorNumbered ⟨Nat.le_trans (by decide) hfr, Nat.le_trans (by decide) hlo⟩ hl.1 (by first | exact Nat.le_of_ble_eq_true rfl | simp [m_cat, m_ci, m_cl, m_cf, m_cd, m_cr]) rfl dX10_gather_2 (fun c1 ws H locs cells slots hH hF => ?_)
  refine m_astore_n (lv' := [(2, va_rf c1), (0, .ref o), (1, .int x1)]) hx hb dX10_gather_5 rfl hl (by decide) (by first | rfl | simp [m_cat, m_ci, m_cl, m_cf, m_cd, m_cr]) (fun ls hl => ?_)
  refine m_aload_n hx hb dX10_gather_6 rfl (lv_at hl 0 rfl) ?_
  refine m_ifnonnull (tgt := 13) hx hb dX10_gather_7 (by decide) (fun hc2 => ?_) (fun hc2 => ?_)
  · have hF := bq_f hc2 hF
    refine lv_aload_n hx hb dX10_gather_13 rfl (lv_at hl 1 rfl) ?_
    refine m_gR hx hb hown hk hH hF fk_RX10_told lk_RX10_43 dX10_gather_14 (fun v4 hF => ?_)
    refine lv_iconst (v := (0)) hx hb dX10_gather_17 (by decide) ?_
    refine m_pV hx hb hown hk hH hF fk_RX3_size lk_RX10_98 pd_9 rfl rfl dX10_gather_18 (fun ws H locs hH hF => ?_)
    refine m_aload_n hx hb dX10_gather_21 rfl (lv_at hl 0 rfl) ?_
    refine lv_aload_n hx hb dX10_gather_22 rfl (lv_at hl 1 rfl) ?_
    refine m_gR hx hb hown hk hH hF fk_RX10_told lk_RX10_43 dX10_gather_23 (fun v5 hF => ?_)
    refine m_cVU hx hb hml hown hk hH hE.le hz (F := fun q7 => F_X8_tellMeans q7.1 v5) (C := RX8) (T := TX8) (N := 4) rfl (As := [va_rf v5]) (rest := []) (fun o => t_X8_tellMeans l D cy z o v5) hF wd_315 wd_316 wd_36 wd_318 wd_317 yn_X8_tellMeans ⟨Nat.le_trans (by decide) hfr, Nat.le_trans (by decide) hlo⟩ hl.1 (by first | exact Nat.le_of_ble_eq_true rfl | simp [m_cat, m_ci, m_cl, m_cf, m_cd, m_cr]) rfl dX10_gather_26 (fun c6 ws H locs cells slots hH hF => ?_)
    refine lv_aload_n hx hb dX10_gather_29 rfl (lv_at hl 1 rfl) ?_
    refine m_gR hx hb hown hk hH hF fk_RX10_told lk_RX10_43 dX10_gather_30 (fun v8 hF => ?_)
    refine m_gI hx hb hown hk hH hF fk_RX3_size lk_RX10_98 dX10_gather_33 (fun v9 hF => ?_)
    exact m_iret hx hb hr hlocks hH hE hF rfl dX10_gather_36
  · have hF := bq_t hc2 hF
    refine lv_bipush (v := (-2)) hx hb dX10_gather_10 (by decide) ?_
    exact m_iret hx hb hr hlocks hH hE hF rfl dX10_gather_12

def F_X10_curveNumbered (o : Nat) (x1 : Int32) : St (Option Nat) :=
  br (x1 < 0) (rt none) (bd (gI [9] 6 (some o)) fun v2 => br (x1 < v2) (bd (gR [9] 1 (some o)) fun v4 => bd (aR 9 v4 x1) fun v5 => rt v5) (rt none))
set_option maxHeartbeats 4000000 in
set_option maxRecDepth 100000 in
theorem t_X10_curveNumbered (l : Launch) (D : va_G) (cy : Nat → ClassId) (z : Nat) (o : Nat) (x1 : Int32) : MT l D cy z yX10_curveNumbered cX10_curveNumbered 2 (some (.object "CurveFoundry$Curve")) 0 0 (F_X10_curveNumbered o x1) vR [.ref o, .int x1] := by
  refine m_enter [(0, .ref o), (1, .int x1)] (by decide) (by first | rfl | simp [lv_args, m_cat, m_ci, m_cl, m_cf, m_cd, m_cr]) (by first | exact Nat.le_of_ble_eq_true rfl | simp [lg_sl, m_cat, m_ci, m_cl, m_cf, m_cd, m_cr]) ?_
  intro p e R s m args below meth c ws0 wsf rr cx hE ws H locs cells slots ls hl hH hF
  obtain ⟨hx, hb, hr, hml, hown, hk, hz, hlocks, hnm, hfr, hlo⟩ := id cx
  unfold F_X10_curveNumbered at hF
  refine lv_iload_n hx hb dX10_curveNumbered_0 rfl (lv_at hl 1 rfl) ?_
  refine lv_if_lt (tgt := 12) hx hb dX10_curveNumbered_1 (by decide) (fun hc0 => ?_) (fun hc0 => ?_)
  · have hF := bq_t hc0 hF
    refine lv_null hx hb dX10_curveNumbered_12 ?_
    refine lv_goto (tgt := 22) hx hb dX10_curveNumbered_13 (by decide) ?_
    exact m_aret hx hb hr (Or.inl ⟨_, rfl⟩) hlocks hH hE hF dX10_curveNumbered_22
  · have hF := bq_f hc0 hF
    refine lv_iload_n hx hb dX10_curveNumbered_4 rfl (lv_at hl 1 rfl) ?_
    refine lv_aload_n hx hb dX10_curveNumbered_5 rfl (lv_at hl 0 rfl) ?_
    refine m_gI hx hb hown hk hH hF fk_RX10_curveCount lk_RX10_47 dX10_curveNumbered_6 (fun v2 hF => ?_)
    refine lv_icmp_lt (tgt := 16) hx hb dX10_curveNumbered_9 (by decide) (fun hc2 => ?_) (fun hc2 => ?_)
    · have hF := bq_t hc2 hF
      refine lv_aload_n hx hb dX10_curveNumbered_16 rfl (lv_at hl 0 rfl) ?_
      refine m_gR hx hb hown hk hH hF fk_RX10_curves lk_RX10_17 dX10_curveNumbered_17 (fun v4 hF => ?_)
      refine lv_iload_n hx hb dX10_curveNumbered_20 rfl (lv_at hl 1 rfl) ?_
      refine m_aR (t := 9) hx hb hk hH ⟨by decide, rfl⟩ hF dX10_curveNumbered_21 (fun v5 hF => ?_)
      exact m_aret hx hb hr (Or.inl ⟨_, rfl⟩) hlocks hH hE hF dX10_curveNumbered_22
    · have hF := bq_f hc2 hF
      refine lv_null hx hb dX10_curveNumbered_12 ?_
      refine lv_goto (tgt := 22) hx hb dX10_curveNumbered_13 (by decide) ?_
      exact m_aret hx hb hr (Or.inl ⟨_, rfl⟩) hlocks hH hE hF dX10_curveNumbered_22

def F_X10_isValue (x0 : Int32) : St (Int32) :=
  bd (F_X10_isWithin x0 (1000000 : Int32)) fun c1 => bd (ck (c1 = 0 ∨ c1 = 1)) fun _ => rt c1
set_option maxHeartbeats 4000000 in
set_option maxRecDepth 100000 in
theorem t_X10_isValue (l : Launch) (D : va_G) (cy : Nat → ClassId) (z : Nat) (x0 : Int32) : MT l D cy z yX10_isValue cX10_isValue 1 (some .boolean) 1 40 (F_X10_isValue x0) vI [.int x0] := by
  refine m_enter [(0, .int x0)] (by decide) (by first | rfl | simp [lv_args, m_cat, m_ci, m_cl, m_cf, m_cd, m_cr]) (by first | exact Nat.le_of_ble_eq_true rfl | simp [lg_sl, m_cat, m_ci, m_cl, m_cf, m_cd, m_cr]) ?_
  intro p e R s m args below meth c ws0 wsf rr cx hE ws H locs cells slots ls hl hH hF
  obtain ⟨hx, hb, hr, hml, hown, hk, hz, hlocks, hnm, hfr, hlo⟩ := id cx
  unfold F_X10_isValue at hF
  refine lv_iload_n hx hb dX10_isValue_0 rfl (lv_at hl 0 rfl) ?_
  refine lv_ldc hx hb hown (hk.wd wd_346 args) dX10_isValue_1 ?_
  refine m_cSI hx hb hml hown hk hH hE.le hz (As := [.int x0, .int (1000000 : Int32)]) (rest := []) (t_X10_isWithin l D cy z x0 (1000000 : Int32)) hF wd_200 wd_201 wd_33 wd_202 yn_X10_isWithin ⟨Nat.le_trans (by decide) hfr, Nat.le_trans (by decide) hlo⟩ hl.1 (by first | exact Nat.le_of_ble_eq_true rfl | simp [m_cat, m_ci, m_cl, m_cf, m_cd, m_cr]) rfl dX10_isValue_3 (fun c1 ws H locs cells slots hH hF => ?_)
  obtain ⟨hz1, hF⟩ := ck_t hF
  exact m_iret hx hb hr hlocks hH hE hF (m_nb hz1) dX10_isValue_6

def F_X10_clamp (o : Nat) (x1 : Int32) (x2 : Int32) (x3 : Int32) : St (Int32) :=
  bd (dr [9] (some o)) fun q2 => bd (F_X10_curveNumbered q2.1 x1) fun c1 => br (c1 = none) (rt (-2 : Int32)) (br (x3 < x2) (rt (-2 : Int32)) (bd (F_X10_isValue x2) fun c5 => br (c5 = 0) (rt (-2 : Int32)) (bd (F_X10_isValue x3) fun c7 => br (c7 = 0) (rt (-2 : Int32)) (bd (gI [3, 4, 6] 1 c1) fun v9 => bd (dr [9] (some o)) fun q11 => bd (F_X10_hasRoomFor q11.1 ((1 : Int32) + v9)) fun c10 => br (c10 = 0) (rt (-2 : Int32)) (bd (mk 10 (.inr (6, [.int 0, .int 0, .null, .null, .int 0, .null, .null, .int 0, .int 0, .int 0]))) fun a13 => bd (F_X7_init a13 (2 : Int32) c1 none x2 x3 (0 : Int32)) fun c14 => bd (dr [9] (some o)) fun q16 => bd (F_X10_keep q16.1 (some a13)) fun c15 => rt c15)))))
set_option maxHeartbeats 4000000 in
set_option maxRecDepth 100000 in
theorem t_X10_clamp (l : Launch) (D : va_G) (cy : Nat → ClassId) (z : Nat) (o : Nat) (x1 : Int32) (x2 : Int32) (x3 : Int32) : MT l D cy z yX10_clamp cX10_clamp 5 (some .int) 3 88 (F_X10_clamp o x1 x2 x3) vI [.ref o, .int x1, .int x2, .int x3] := by
  refine m_enter [(0, .ref o), (1, .int x1), (2, .int x2), (3, .int x3)] (by decide) (by first | rfl | simp [lv_args, m_cat, m_ci, m_cl, m_cf, m_cd, m_cr]) (by first | exact Nat.le_of_ble_eq_true rfl | simp [lg_sl, m_cat, m_ci, m_cl, m_cf, m_cd, m_cr]) ?_
  intro p e R s m args below meth c ws0 wsf rr cx hE ws H locs cells slots ls hl hH hF
  obtain ⟨hx, hb, hr, hml, hown, hk, hz, hlocks, hnm, hfr, hlo⟩ := id cx
  unfold F_X10_clamp at hF
  refine lv_aload_n hx hb dX10_clamp_0 rfl (lv_at hl 0 rfl) ?_
  refine lv_iload_n hx hb dX10_clamp_1 rfl (lv_at hl 1 rfl) ?_
  refine m_cVR hx hb hml hown hk hH hE.le hz (F := fun q2 => F_X10_curveNumbered q2.1 x1) (C := RX10) (T := TX10) (N := 7) rfl (As := [.int x1]) (rest := []) (fun o => t_X10_curveNumbered l D cy z o x1) hF wd_339 wd_341 wd_33 wd_342 wd_5 yn_X10_curveNumbered ⟨Nat.le_trans (by decide) hfr, Nat.le_trans (by decide) hlo⟩ hl.1 (by first | exact Nat.le_of_ble_eq_true rfl | simp [m_cat, m_ci, m_cl, m_cf, m_cd, m_cr]) rfl dX10_clamp_2 (fun c1 ws H locs cells slots hH hF => ?_)
  refine m_astore (lv' := [(4, va_rf c1), (0, .ref o), (1, .int x1), (2, .int x2), (3, .int x3)]) hx hb dX10_clamp_5 hl (by decide) (by first | rfl | simp [m_cat, m_ci, m_cl, m_cf, m_cd, m_cr]) (fun ls hl => ?_)
  refine m_aload hx hb dX10_clamp_7 (lv_at hl 0 rfl) ?_
  refine m_ifnull (tgt := 45) hx hb dX10_clamp_9 (by decide) (fun hc2 => ?_) (fun hc2 => ?_)
  · have hF := bq_t hc2 hF
    refine lv_bipush (v := (-2)) hx hb dX10_clamp_45 (by decide) ?_
    exact m_iret hx hb hr hlocks hH hE hF rfl dX10_clamp_47
  · have hF := bq_f hc2 hF
    refine lv_iload_n hx hb dX10_clamp_12 rfl (lv_at hl 3 rfl) ?_
    refine lv_iload_n hx hb dX10_clamp_13 rfl (lv_at hl 4 rfl) ?_
    refine lv_icmp_gt (tgt := 45) hx hb dX10_clamp_14 (by decide) (fun hc3 => ?_) (fun hc3 => ?_)
    · have hF := bq_t hc3 hF
      refine lv_bipush (v := (-2)) hx hb dX10_clamp_45 (by decide) ?_
      exact m_iret hx hb hr hlocks hH hE hF rfl dX10_clamp_47
    · have hF := bq_f hc3 hF
      refine lv_iload_n hx hb dX10_clamp_17 rfl (lv_at hl 3 rfl) ?_
      refine m_cSI hx hb hml hown hk hH hE.le hz (As := [.int x2]) (rest := []) (t_X10_isValue l D cy z x2) hF wd_343 wd_344 wd_33 wd_345 yn_X10_isValue ⟨Nat.le_trans (by decide) hfr, Nat.le_trans (by decide) hlo⟩ hl.1 (by first | exact Nat.le_of_ble_eq_true rfl | simp [m_cat, m_ci, m_cl, m_cf, m_cd, m_cr]) rfl dX10_clamp_18 (fun c5 ws H locs cells slots hH hF => ?_)
      refine lv_if_eq (tgt := 45) hx hb dX10_clamp_21 (by decide) (fun hc5 => ?_) (fun hc5 => ?_)
      · have hF := bq_t hc5 hF
        refine lv_bipush (v := (-2)) hx hb dX10_clamp_45 (by decide) ?_
        exact m_iret hx hb hr hlocks hH hE hF rfl dX10_clamp_47
      · have hF := bq_f hc5 hF
        refine lv_iload_n hx hb dX10_clamp_24 rfl (lv_at hl 4 rfl) ?_
        refine m_cSI hx hb hml hown hk hH hE.le hz (As := [.int x3]) (rest := []) (t_X10_isValue l D cy z x3) hF wd_343 wd_344 wd_33 wd_345 yn_X10_isValue ⟨Nat.le_trans (by decide) hfr, Nat.le_trans (by decide) hlo⟩ hl.1 (by first | exact Nat.le_of_ble_eq_true rfl | simp [m_cat, m_ci, m_cl, m_cf, m_cd, m_cr]) rfl dX10_clamp_25 (fun c7 ws H locs cells slots hH hF => ?_)
        refine lv_if_eq (tgt := 45) hx hb dX10_clamp_28 (by decide) (fun hc7 => ?_) (fun hc7 => ?_)
        · have hF := bq_t hc7 hF
          refine lv_bipush (v := (-2)) hx hb dX10_clamp_45 (by decide) ?_
          exact m_iret hx hb hr hlocks hH hE hF rfl dX10_clamp_47
        · have hF := bq_f hc7 hF
          refine lv_aload_n hx hb dX10_clamp_31 rfl (lv_at hl 1 rfl) ?_
          refine lv_iconst (v := (1)) hx hb dX10_clamp_32 (by decide) ?_
          refine m_aload hx hb dX10_clamp_33 (lv_at hl 0 rfl) ?_
          refine m_gI hx hb hown hk hH hF fk_RX1_work lk_RX10_117 dX10_clamp_35 (fun v9 hF => ?_)
          refine lv_iadd hx hb dX10_clamp_38 ?_
          refine m_cVI hx hb hml hown hk hH hE.le hz (F := fun q11 => F_X10_hasRoomFor q11.1 ((1 : Int32) + v9)) (C := RX10) (T := TX10) (N := 7) rfl (As := [.int ((1 : Int32) + v9)]) (rest := []) (fun o => t_X10_hasRoomFor l D cy z o ((1 : Int32) + v9)) hF wd_227 wd_229 wd_33 wd_230 wd_1 yn_X10_hasRoomFor ⟨Nat.le_trans (by decide) hfr, Nat.le_trans (by decide) hlo⟩ hl.1 (by first | exact Nat.le_of_ble_eq_true rfl | simp [m_cat, m_ci, m_cl, m_cf, m_cd, m_cr]) rfl dX10_clamp_39 (fun c10 ws H locs cells slots hH hF => ?_)
          refine lv_if_ne (tgt := 48) hx hb dX10_clamp_42 (by decide) (fun hc11 => ?_) (fun hc11 => ?_)
          · have hF := bq_f hc11 hF
            refine lv_aload_n hx hb dX10_clamp_48 rfl (lv_at hl 1 rfl) ?_
            refine m_new hx hb hown hk hH hE.le hz hF rfl nf_RX7 wd_347 wd_348 wd_43 dX10_clamp_49 (fun a13 ws H hH hF => ?_)
            refine lv_dup hx hb dX10_clamp_52 rfl ?_
            refine lv_iconst (v := (2)) hx hb dX10_clamp_53 (by decide) ?_
            refine m_aload hx hb dX10_clamp_54 (lv_at hl 0 rfl) ?_
            refine lv_null hx hb dX10_clamp_56 ?_
            refine lv_iload_n hx hb dX10_clamp_57 rfl (lv_at hl 3 rfl) ?_
            refine lv_iload_n hx hb dX10_clamp_58 rfl (lv_at hl 4 rfl) ?_
            refine lv_iconst (v := (0)) hx hb dX10_clamp_59 (by decide) ?_
            refine m_cI hx hb hml hown hk hH hE.le hz (b := a13) (As := [.int (2 : Int32), va_rf c1, .null, .int x2, .int x3, .int (0 : Int32)]) (rest := [.ref a13, .ref o]) (t_X7_init l D cy z a13 (2 : Int32) c1 none x2 x3 (0 : Int32)) hF wd_349 wd_350 wd_43 wd_351 yn_X7_init rfl ⟨Nat.le_trans (by decide) hfr, Nat.le_trans (by decide) hlo⟩ hl.1 (by first | exact Nat.le_of_ble_eq_true rfl | simp [m_cat, m_ci, m_cl, m_cf, m_cd, m_cr]) rfl dX10_clamp_60 (fun c14 ws H locs cells slots hH hF => ?_)
            refine m_cVI hx hb hml hown hk hH hE.le hz (F := fun q16 => F_X10_keep q16.1 (some a13)) (C := RX10) (T := TX10) (N := 7) rfl (As := [.ref a13]) (rest := []) (fun o => t_X10_keep l D cy z o (some a13)) hF wd_273 wd_275 wd_33 wd_276 wd_2 yn_X10_keep ⟨Nat.le_trans (by decide) hfr, Nat.le_trans (by decide) hlo⟩ hl.1 (by first | exact Nat.le_of_ble_eq_true rfl | simp [m_cat, m_ci, m_cl, m_cf, m_cd, m_cr]) rfl dX10_clamp_63 (fun c15 ws H locs cells slots hH hF => ?_)
            exact m_iret hx hb hr hlocks hH hE hF rfl dX10_clamp_66
          · have hF := bq_t hc11 hF
            refine lv_bipush (v := (-2)) hx hb dX10_clamp_45 (by decide) ?_
            exact m_iret hx hb hr hlocks hH hE hF rfl dX10_clamp_47

def F_X10_dead (o : Nat) (x1 : Int32) (x2 : Int32) (x3 : Int32) (x4 : Int32) : St (Int32) :=
  bd (dr [9] (some o)) fun q2 => bd (F_X10_curveNumbered q2.1 x1) fun c1 => br (c1 = none) (rt (-2 : Int32)) (br (x3 < x2) (rt (-2 : Int32)) (bd (F_X10_isValue x2) fun c5 => br (c5 = 0) (rt (-2 : Int32)) (bd (F_X10_isValue x3) fun c7 => br (c7 = 0) (rt (-2 : Int32)) (bd (F_X10_isValue x4) fun c9 => br (c9 = 0) (rt (-2 : Int32)) (bd (gI [3, 4, 6] 1 c1) fun v11 => bd (dr [9] (some o)) fun q13 => bd (F_X10_hasRoomFor q13.1 ((1 : Int32) + v11)) fun c12 => br (c12 = 0) (rt (-2 : Int32)) (bd (mk 10 (.inr (6, [.int 0, .int 0, .null, .null, .int 0, .null, .null, .int 0, .int 0, .int 0]))) fun a15 => bd (F_X7_init a15 (3 : Int32) c1 none x2 x3 x4) fun c16 => bd (dr [9] (some o)) fun q18 => bd (F_X10_keep q18.1 (some a15)) fun c17 => rt c17))))))
set_option maxHeartbeats 4000000 in
set_option maxRecDepth 100000 in
theorem t_X10_dead (l : Launch) (D : va_G) (cy : Nat → ClassId) (z : Nat) (o : Nat) (x1 : Int32) (x2 : Int32) (x3 : Int32) (x4 : Int32) : MT l D cy z yX10_dead cX10_dead 6 (some .int) 3 88 (F_X10_dead o x1 x2 x3 x4) vI [.ref o, .int x1, .int x2, .int x3, .int x4] := by
  refine m_enter [(0, .ref o), (1, .int x1), (2, .int x2), (3, .int x3), (4, .int x4)] (by decide) (by first | rfl | simp [lv_args, m_cat, m_ci, m_cl, m_cf, m_cd, m_cr]) (by first | exact Nat.le_of_ble_eq_true rfl | simp [lg_sl, m_cat, m_ci, m_cl, m_cf, m_cd, m_cr]) ?_
  intro p e R s m args below meth c ws0 wsf rr cx hE ws H locs cells slots ls hl hH hF
  obtain ⟨hx, hb, hr, hml, hown, hk, hz, hlocks, hnm, hfr, hlo⟩ := id cx
  unfold F_X10_dead at hF
  refine lv_aload_n hx hb dX10_dead_0 rfl (lv_at hl 0 rfl) ?_
  refine lv_iload_n hx hb dX10_dead_1 rfl (lv_at hl 1 rfl) ?_
  refine m_cVR hx hb hml hown hk hH hE.le hz (F := fun q2 => F_X10_curveNumbered q2.1 x1) (C := RX10) (T := TX10) (N := 7) rfl (As := [.int x1]) (rest := []) (fun o => t_X10_curveNumbered l D cy z o x1) hF wd_339 wd_341 wd_33 wd_342 wd_5 yn_X10_curveNumbered ⟨Nat.le_trans (by decide) hfr, Nat.le_trans (by decide) hlo⟩ hl.1 (by first | exact Nat.le_of_ble_eq_true rfl | simp [m_cat, m_ci, m_cl, m_cf, m_cd, m_cr]) rfl dX10_dead_2 (fun c1 ws H locs cells slots hH hF => ?_)
  refine m_astore (lv' := [(5, va_rf c1), (0, .ref o), (1, .int x1), (2, .int x2), (3, .int x3), (4, .int x4)]) hx hb dX10_dead_5 hl (by decide) (by first | rfl | simp [m_cat, m_ci, m_cl, m_cf, m_cd, m_cr]) (fun ls hl => ?_)
  refine m_aload hx hb dX10_dead_7 (lv_at hl 0 rfl) ?_
  refine m_ifnull (tgt := 39) hx hb dX10_dead_9 (by decide) (fun hc2 => ?_) (fun hc2 => ?_)
  · have hF := bq_t hc2 hF
    refine lv_bipush (v := (-2)) hx hb dX10_dead_39 (by decide) ?_
    exact m_iret hx hb hr hlocks hH hE hF rfl dX10_dead_41
  · have hF := bq_f hc2 hF
    refine lv_iload_n hx hb dX10_dead_12 rfl (lv_at hl 3 rfl) ?_
    refine lv_iload_n hx hb dX10_dead_13 rfl (lv_at hl 4 rfl) ?_
    refine lv_icmp_gt (tgt := 39) hx hb dX10_dead_14 (by decide) (fun hc3 => ?_) (fun hc3 => ?_)
    · have hF := bq_t hc3 hF
      refine lv_bipush (v := (-2)) hx hb dX10_dead_39 (by decide) ?_
      exact m_iret hx hb hr hlocks hH hE hF rfl dX10_dead_41
    · have hF := bq_f hc3 hF
      refine lv_iload_n hx hb dX10_dead_17 rfl (lv_at hl 3 rfl) ?_
      refine m_cSI hx hb hml hown hk hH hE.le hz (As := [.int x2]) (rest := []) (t_X10_isValue l D cy z x2) hF wd_343 wd_344 wd_33 wd_345 yn_X10_isValue ⟨Nat.le_trans (by decide) hfr, Nat.le_trans (by decide) hlo⟩ hl.1 (by first | exact Nat.le_of_ble_eq_true rfl | simp [m_cat, m_ci, m_cl, m_cf, m_cd, m_cr]) rfl dX10_dead_18 (fun c5 ws H locs cells slots hH hF => ?_)
      refine lv_if_eq (tgt := 39) hx hb dX10_dead_21 (by decide) (fun hc5 => ?_) (fun hc5 => ?_)
      · have hF := bq_t hc5 hF
        refine lv_bipush (v := (-2)) hx hb dX10_dead_39 (by decide) ?_
        exact m_iret hx hb hr hlocks hH hE hF rfl dX10_dead_41
      · have hF := bq_f hc5 hF
        refine lv_iload_n hx hb dX10_dead_24 rfl (lv_at hl 4 rfl) ?_
        refine m_cSI hx hb hml hown hk hH hE.le hz (As := [.int x3]) (rest := []) (t_X10_isValue l D cy z x3) hF wd_343 wd_344 wd_33 wd_345 yn_X10_isValue ⟨Nat.le_trans (by decide) hfr, Nat.le_trans (by decide) hlo⟩ hl.1 (by first | exact Nat.le_of_ble_eq_true rfl | simp [m_cat, m_ci, m_cl, m_cf, m_cd, m_cr]) rfl dX10_dead_25 (fun c7 ws H locs cells slots hH hF => ?_)
        refine lv_if_eq (tgt := 39) hx hb dX10_dead_28 (by decide) (fun hc7 => ?_) (fun hc7 => ?_)
        · have hF := bq_t hc7 hF
          refine lv_bipush (v := (-2)) hx hb dX10_dead_39 (by decide) ?_
          exact m_iret hx hb hr hlocks hH hE hF rfl dX10_dead_41
        · have hF := bq_f hc7 hF
          refine lv_iload hx hb dX10_dead_31 (lv_at hl 5 rfl) ?_
          refine m_cSI hx hb hml hown hk hH hE.le hz (As := [.int x4]) (rest := []) (t_X10_isValue l D cy z x4) hF wd_343 wd_344 wd_33 wd_345 yn_X10_isValue ⟨Nat.le_trans (by decide) hfr, Nat.le_trans (by decide) hlo⟩ hl.1 (by first | exact Nat.le_of_ble_eq_true rfl | simp [m_cat, m_ci, m_cl, m_cf, m_cd, m_cr]) rfl dX10_dead_33 (fun c9 ws H locs cells slots hH hF => ?_)
          refine lv_if_ne (tgt := 42) hx hb dX10_dead_36 (by decide) (fun hc9 => ?_) (fun hc9 => ?_)
          · have hF := bq_f hc9 hF
            refine lv_aload_n hx hb dX10_dead_42 rfl (lv_at hl 1 rfl) ?_
            refine lv_iconst (v := (1)) hx hb dX10_dead_43 (by decide) ?_
            refine m_aload hx hb dX10_dead_44 (lv_at hl 0 rfl) ?_
            refine m_gI hx hb hown hk hH hF fk_RX1_work lk_RX10_117 dX10_dead_46 (fun v11 hF => ?_)
            refine lv_iadd hx hb dX10_dead_49 ?_
            refine m_cVI hx hb hml hown hk hH hE.le hz (F := fun q13 => F_X10_hasRoomFor q13.1 ((1 : Int32) + v11)) (C := RX10) (T := TX10) (N := 7) rfl (As := [.int ((1 : Int32) + v11)]) (rest := []) (fun o => t_X10_hasRoomFor l D cy z o ((1 : Int32) + v11)) hF wd_227 wd_229 wd_33 wd_230 wd_1 yn_X10_hasRoomFor ⟨Nat.le_trans (by decide) hfr, Nat.le_trans (by decide) hlo⟩ hl.1 (by first | exact Nat.le_of_ble_eq_true rfl | simp [m_cat, m_ci, m_cl, m_cf, m_cd, m_cr]) rfl dX10_dead_50 (fun c12 ws H locs cells slots hH hF => ?_)
            refine lv_if_ne (tgt := 59) hx hb dX10_dead_53 (by decide) (fun hc13 => ?_) (fun hc13 => ?_)
            · have hF := bq_f hc13 hF
              refine lv_aload_n hx hb dX10_dead_59 rfl (lv_at hl 1 rfl) ?_
              refine m_new hx hb hown hk hH hE.le hz hF rfl nf_RX7 wd_347 wd_348 wd_43 dX10_dead_60 (fun a15 ws H hH hF => ?_)
              refine lv_dup hx hb dX10_dead_63 rfl ?_
              refine lv_iconst (v := (3)) hx hb dX10_dead_64 (by decide) ?_
              refine m_aload hx hb dX10_dead_65 (lv_at hl 0 rfl) ?_
              refine lv_null hx hb dX10_dead_67 ?_
              refine lv_iload_n hx hb dX10_dead_68 rfl (lv_at hl 3 rfl) ?_
              refine lv_iload_n hx hb dX10_dead_69 rfl (lv_at hl 4 rfl) ?_
              refine lv_iload hx hb dX10_dead_70 (lv_at hl 5 rfl) ?_
              refine m_cI hx hb hml hown hk hH hE.le hz (b := a15) (As := [.int (3 : Int32), va_rf c1, .null, .int x2, .int x3, .int x4]) (rest := [.ref a15, .ref o]) (t_X7_init l D cy z a15 (3 : Int32) c1 none x2 x3 x4) hF wd_349 wd_350 wd_43 wd_351 yn_X7_init rfl ⟨Nat.le_trans (by decide) hfr, Nat.le_trans (by decide) hlo⟩ hl.1 (by first | exact Nat.le_of_ble_eq_true rfl | simp [m_cat, m_ci, m_cl, m_cf, m_cd, m_cr]) rfl dX10_dead_72 (fun c16 ws H locs cells slots hH hF => ?_)
              refine m_cVI hx hb hml hown hk hH hE.le hz (F := fun q18 => F_X10_keep q18.1 (some a15)) (C := RX10) (T := TX10) (N := 7) rfl (As := [.ref a15]) (rest := []) (fun o => t_X10_keep l D cy z o (some a15)) hF wd_273 wd_275 wd_33 wd_276 wd_2 yn_X10_keep ⟨Nat.le_trans (by decide) hfr, Nat.le_trans (by decide) hlo⟩ hl.1 (by first | exact Nat.le_of_ble_eq_true rfl | simp [m_cat, m_ci, m_cl, m_cf, m_cd, m_cr]) rfl dX10_dead_75 (fun c17 ws H locs cells slots hH hF => ?_)
              exact m_iret hx hb hr hlocks hH hE hF rfl dX10_dead_78
            · have hF := bq_t hc13 hF
              refine lv_bipush (v := (-2)) hx hb dX10_dead_56 (by decide) ?_
              exact m_iret hx hb hr hlocks hH hE hF rfl dX10_dead_58
          · have hF := bq_t hc9 hF
            refine lv_bipush (v := (-2)) hx hb dX10_dead_39 (by decide) ?_
            exact m_iret hx hb hr hlocks hH hE hF rfl dX10_dead_41

def F_X10_chain (o : Nat) (x1 : Int32) (x2 : Int32) : St (Int32) :=
  bd (dr [9] (some o)) fun q2 => bd (F_X10_curveNumbered q2.1 x1) fun c1 => bd (dr [9] (some o)) fun q4 => bd (F_X10_curveNumbered q4.1 x2) fun c3 => br (c1 = none) (rt (-2 : Int32)) (br (c3 = none) (rt (-2 : Int32)) (bd (gI [3, 4, 6] 1 c1) fun v7 => bd (gI [3, 4, 6] 1 c3) fun v8 => bd (dr [9] (some o)) fun q10 => bd (F_X10_hasRoomFor q10.1 (((1 : Int32) + v7) + v8)) fun c9 => br (c9 = 0) (rt (-2 : Int32)) (bd (mk 10 (.inr (6, [.int 0, .int 0, .null, .null, .int 0, .null, .null, .int 0, .int 0, .int 0]))) fun a12 => bd (F_X7_init a12 (4 : Int32) c3 c1 (0 : Int32) (0 : Int32) (0 : Int32)) fun c13 => bd (dr [9] (some o)) fun q15 => bd (F_X10_keep q15.1 (some a12)) fun c14 => rt c14)))
set_option maxHeartbeats 4000000 in
set_option maxRecDepth 100000 in
theorem t_X10_chain (l : Launch) (D : va_G) (cy : Nat → ClassId) (z : Nat) (o : Nat) (x1 : Int32) (x2 : Int32) : MT l D cy z yX10_chain cX10_chain 5 (some .int) 3 88 (F_X10_chain o x1 x2) vI [.ref o, .int x1, .int x2] := by
  refine m_enter [(0, .ref o), (1, .int x1), (2, .int x2)] (by decide) (by first | rfl | simp [lv_args, m_cat, m_ci, m_cl, m_cf, m_cd, m_cr]) (by first | exact Nat.le_of_ble_eq_true rfl | simp [lg_sl, m_cat, m_ci, m_cl, m_cf, m_cd, m_cr]) ?_
  intro p e R s m args below meth c ws0 wsf rr cx hE ws H locs cells slots ls hl hH hF
  obtain ⟨hx, hb, hr, hml, hown, hk, hz, hlocks, hnm, hfr, hlo⟩ := id cx
  unfold F_X10_chain at hF
  refine lv_aload_n hx hb dX10_chain_0 rfl (lv_at hl 0 rfl) ?_
  refine lv_iload_n hx hb dX10_chain_1 rfl (lv_at hl 1 rfl) ?_
  refine m_cVR hx hb hml hown hk hH hE.le hz (F := fun q2 => F_X10_curveNumbered q2.1 x1) (C := RX10) (T := TX10) (N := 7) rfl (As := [.int x1]) (rest := []) (fun o => t_X10_curveNumbered l D cy z o x1) hF wd_339 wd_341 wd_33 wd_342 wd_5 yn_X10_curveNumbered ⟨Nat.le_trans (by decide) hfr, Nat.le_trans (by decide) hlo⟩ hl.1 (by first | exact Nat.le_of_ble_eq_true rfl | simp [m_cat, m_ci, m_cl, m_cf, m_cd, m_cr]) rfl dX10_chain_2 (fun c1 ws H locs cells slots hH hF => ?_)
  refine m_astore_n (lv' := [(3, va_rf c1), (0, .ref o), (1, .int x1), (2, .int x2)]) hx hb dX10_chain_5 rfl hl (by decide) (by first | rfl | simp [m_cat, m_ci, m_cl, m_cf, m_cd, m_cr]) (fun ls hl => ?_)
  refine lv_aload_n hx hb dX10_chain_6 rfl (lv_at hl 1 rfl) ?_
  refine lv_iload_n hx hb dX10_chain_7 rfl (lv_at hl 3 rfl) ?_
  refine m_cVR hx hb hml hown hk hH hE.le hz (F := fun q4 => F_X10_curveNumbered q4.1 x2) (C := RX10) (T := TX10) (N := 7) rfl (As := [.int x2]) (rest := []) (fun o => t_X10_curveNumbered l D cy z o x2) hF wd_339 wd_341 wd_33 wd_342 wd_5 yn_X10_curveNumbered ⟨Nat.le_trans (by decide) hfr, Nat.le_trans (by decide) hlo⟩ hl.1 (by first | exact Nat.le_of_ble_eq_true rfl | simp [m_cat, m_ci, m_cl, m_cf, m_cd, m_cr]) rfl dX10_chain_8 (fun c3 ws H locs cells slots hH hF => ?_)
  refine m_astore (lv' := [(4, va_rf c3), (3, va_rf c1), (0, .ref o), (1, .int x1), (2, .int x2)]) hx hb dX10_chain_11 hl (by decide) (by first | rfl | simp [m_cat, m_ci, m_cl, m_cf, m_cd, m_cr]) (fun ls hl => ?_)
  refine m_aload_n hx hb dX10_chain_13 rfl (lv_at hl 1 rfl) ?_
  refine m_ifnull (tgt := 41) hx hb dX10_chain_14 (by decide) (fun hc4 => ?_) (fun hc4 => ?_)
  · have hF := bq_t hc4 hF
    refine lv_bipush (v := (-2)) hx hb dX10_chain_41 (by decide) ?_
    exact m_iret hx hb hr hlocks hH hE hF rfl dX10_chain_43
  · have hF := bq_f hc4 hF
    refine m_aload hx hb dX10_chain_17 (lv_at hl 0 rfl) ?_
    refine m_ifnull (tgt := 41) hx hb dX10_chain_19 (by decide) (fun hc5 => ?_) (fun hc5 => ?_)
    · have hF := bq_t hc5 hF
      refine lv_bipush (v := (-2)) hx hb dX10_chain_41 (by decide) ?_
      exact m_iret hx hb hr hlocks hH hE hF rfl dX10_chain_43
    · have hF := bq_f hc5 hF
      refine lv_aload_n hx hb dX10_chain_22 rfl (lv_at hl 2 rfl) ?_
      refine lv_iconst (v := (1)) hx hb dX10_chain_23 (by decide) ?_
      refine m_aload_n hx hb dX10_chain_24 rfl (lv_at hl 1 rfl) ?_
      refine m_gI hx hb hown hk hH hF fk_RX1_work lk_RX10_117 dX10_chain_25 (fun v7 hF => ?_)
      refine lv_iadd hx hb dX10_chain_28 ?_
      refine m_aload hx hb dX10_chain_29 (lv_at hl 0 rfl) ?_
      refine m_gI hx hb hown hk hH hF fk_RX1_work lk_RX10_117 dX10_chain_31 (fun v8 hF => ?_)
      refine lv_iadd hx hb dX10_chain_34 ?_
      refine m_cVI hx hb hml hown hk hH hE.le hz (F := fun q10 => F_X10_hasRoomFor q10.1 (((1 : Int32) + v7) + v8)) (C := RX10) (T := TX10) (N := 7) rfl (As := [.int (((1 : Int32) + v7) + v8)]) (rest := []) (fun o => t_X10_hasRoomFor l D cy z o (((1 : Int32) + v7) + v8)) hF wd_227 wd_229 wd_33 wd_230 wd_1 yn_X10_hasRoomFor ⟨Nat.le_trans (by decide) hfr, Nat.le_trans (by decide) hlo⟩ hl.1 (by first | exact Nat.le_of_ble_eq_true rfl | simp [m_cat, m_ci, m_cl, m_cf, m_cd, m_cr]) rfl dX10_chain_35 (fun c9 ws H locs cells slots hH hF => ?_)
      refine lv_if_ne (tgt := 44) hx hb dX10_chain_38 (by decide) (fun hc10 => ?_) (fun hc10 => ?_)
      · have hF := bq_f hc10 hF
        refine lv_aload_n hx hb dX10_chain_44 rfl (lv_at hl 2 rfl) ?_
        refine m_new hx hb hown hk hH hE.le hz hF rfl nf_RX7 wd_347 wd_348 wd_43 dX10_chain_45 (fun a12 ws H hH hF => ?_)
        refine lv_dup hx hb dX10_chain_48 rfl ?_
        refine lv_iconst (v := (4)) hx hb dX10_chain_49 (by decide) ?_
        refine m_aload hx hb dX10_chain_50 (lv_at hl 0 rfl) ?_
        refine m_aload_n hx hb dX10_chain_52 rfl (lv_at hl 1 rfl) ?_
        refine lv_iconst (v := (0)) hx hb dX10_chain_53 (by decide) ?_
        refine lv_iconst (v := (0)) hx hb dX10_chain_54 (by decide) ?_
        refine lv_iconst (v := (0)) hx hb dX10_chain_55 (by decide) ?_
        refine m_cI hx hb hml hown hk hH hE.le hz (b := a12) (As := [.int (4 : Int32), va_rf c3, va_rf c1, .int (0 : Int32), .int (0 : Int32), .int (0 : Int32)]) (rest := [.ref a12, .ref o]) (t_X7_init l D cy z a12 (4 : Int32) c3 c1 (0 : Int32) (0 : Int32) (0 : Int32)) hF wd_349 wd_350 wd_43 wd_351 yn_X7_init rfl ⟨Nat.le_trans (by decide) hfr, Nat.le_trans (by decide) hlo⟩ hl.1 (by first | exact Nat.le_of_ble_eq_true rfl | simp [m_cat, m_ci, m_cl, m_cf, m_cd, m_cr]) rfl dX10_chain_56 (fun c13 ws H locs cells slots hH hF => ?_)
        refine m_cVI hx hb hml hown hk hH hE.le hz (F := fun q15 => F_X10_keep q15.1 (some a12)) (C := RX10) (T := TX10) (N := 7) rfl (As := [.ref a12]) (rest := []) (fun o => t_X10_keep l D cy z o (some a12)) hF wd_273 wd_275 wd_33 wd_276 wd_2 yn_X10_keep ⟨Nat.le_trans (by decide) hfr, Nat.le_trans (by decide) hlo⟩ hl.1 (by first | exact Nat.le_of_ble_eq_true rfl | simp [m_cat, m_ci, m_cl, m_cf, m_cd, m_cr]) rfl dX10_chain_59 (fun c14 ws H locs cells slots hH hF => ?_)
        exact m_iret hx hb hr hlocks hH hE hF rfl dX10_chain_62
      · have hF := bq_t hc10 hF
        refine lv_bipush (v := (-2)) hx hb dX10_chain_41 (by decide) ?_
        exact m_iret hx hb hr hlocks hH hE hF rfl dX10_chain_43

def F_X10_gain (o : Nat) (x1 : Int32) (x2 : Int32) (x3 : Int32) (x4 : Int32) : St (Int32) :=
  bd (dr [9] (some o)) fun q2 => bd (F_X10_curveNumbered q2.1 x1) fun c1 => br (c1 = none) (rt (-2 : Int32)) (bd (F_X10_isWithin x2 (1000 : Int32)) fun c4 => br (c4 = 0) (rt (-2 : Int32)) (br (x3 < (1 : Int32)) (rt (-2 : Int32)) (br (x3 ≤ (1000 : Int32)) (bd (F_X10_isValue x4) fun c8 => br (c8 = 0) (rt (-2 : Int32)) (bd (gI [3, 4, 6] 1 c1) fun v10 => bd (dr [9] (some o)) fun q12 => bd (F_X10_hasRoomFor q12.1 ((1 : Int32) + v10)) fun c11 => br (c11 = 0) (rt (-2 : Int32)) (bd (mk 10 (.inr (6, [.int 0, .int 0, .null, .null, .int 0, .null, .null, .int 0, .int 0, .int 0]))) fun a14 => bd (F_X7_init a14 (5 : Int32) c1 none x2 x3 x4) fun c15 => bd (dr [9] (some o)) fun q17 => bd (F_X10_keep q17.1 (some a14)) fun c16 => rt c16))) (rt (-2 : Int32)))))
set_option maxHeartbeats 4000000 in
set_option maxRecDepth 100000 in
theorem t_X10_gain (l : Launch) (D : va_G) (cy : Nat → ClassId) (z : Nat) (o : Nat) (x1 : Int32) (x2 : Int32) (x3 : Int32) (x4 : Int32) : MT l D cy z yX10_gain cX10_gain 6 (some .int) 3 88 (F_X10_gain o x1 x2 x3 x4) vI [.ref o, .int x1, .int x2, .int x3, .int x4] := by
  refine m_enter [(0, .ref o), (1, .int x1), (2, .int x2), (3, .int x3), (4, .int x4)] (by decide) (by first | rfl | simp [lv_args, m_cat, m_ci, m_cl, m_cf, m_cd, m_cr]) (by first | exact Nat.le_of_ble_eq_true rfl | simp [lg_sl, m_cat, m_ci, m_cl, m_cf, m_cd, m_cr]) ?_
  intro p e R s m args below meth c ws0 wsf rr cx hE ws H locs cells slots ls hl hH hF
  obtain ⟨hx, hb, hr, hml, hown, hk, hz, hlocks, hnm, hfr, hlo⟩ := id cx
  unfold F_X10_gain at hF
  refine lv_aload_n hx hb dX10_gain_0 rfl (lv_at hl 0 rfl) ?_
  refine lv_iload_n hx hb dX10_gain_1 rfl (lv_at hl 1 rfl) ?_
  refine m_cVR hx hb hml hown hk hH hE.le hz (F := fun q2 => F_X10_curveNumbered q2.1 x1) (C := RX10) (T := TX10) (N := 7) rfl (As := [.int x1]) (rest := []) (fun o => t_X10_curveNumbered l D cy z o x1) hF wd_339 wd_341 wd_33 wd_342 wd_5 yn_X10_curveNumbered ⟨Nat.le_trans (by decide) hfr, Nat.le_trans (by decide) hlo⟩ hl.1 (by first | exact Nat.le_of_ble_eq_true rfl | simp [m_cat, m_ci, m_cl, m_cf, m_cd, m_cr]) rfl dX10_gain_2 (fun c1 ws H locs cells slots hH hF => ?_)
  refine m_astore (lv' := [(5, va_rf c1), (0, .ref o), (1, .int x1), (2, .int x2), (3, .int x3), (4, .int x4)]) hx hb dX10_gain_5 hl (by decide) (by first | rfl | simp [m_cat, m_ci, m_cl, m_cf, m_cd, m_cr]) (fun ls hl => ?_)
  refine m_aload hx hb dX10_gain_7 (lv_at hl 0 rfl) ?_
  refine m_ifnull (tgt := 34) hx hb dX10_gain_9 (by decide) (fun hc2 => ?_) (fun hc2 => ?_)
  · have hF := bq_t hc2 hF
    refine lv_bipush (v := (-2)) hx hb dX10_gain_34 (by decide) ?_
    exact m_iret hx hb hr hlocks hH hE hF rfl dX10_gain_36
  · have hF := bq_f hc2 hF
    refine lv_iload_n hx hb dX10_gain_12 rfl (lv_at hl 3 rfl) ?_
    refine lv_sipush (v := (1000)) hx hb dX10_gain_13 (by decide) ?_
    refine m_cSI hx hb hml hown hk hH hE.le hz (As := [.int x2, .int (1000 : Int32)]) (rest := []) (t_X10_isWithin l D cy z x2 (1000 : Int32)) hF wd_200 wd_201 wd_33 wd_202 yn_X10_isWithin ⟨Nat.le_trans (by decide) hfr, Nat.le_trans (by decide) hlo⟩ hl.1 (by first | exact Nat.le_of_ble_eq_true rfl | simp [m_cat, m_ci, m_cl, m_cf, m_cd, m_cr]) rfl dX10_gain_16 (fun c4 ws H locs cells slots hH hF => ?_)
    refine lv_if_eq (tgt := 34) hx hb dX10_gain_19 (by decide) (fun hc4 => ?_) (fun hc4 => ?_)
    · have hF := bq_t hc4 hF
      refine lv_bipush (v := (-2)) hx hb dX10_gain_34 (by decide) ?_
      exact m_iret hx hb hr hlocks hH hE hF rfl dX10_gain_36
    · have hF := bq_f hc4 hF
      refine lv_iload_n hx hb dX10_gain_22 rfl (lv_at hl 4 rfl) ?_
      refine lv_iconst (v := (1)) hx hb dX10_gain_23 (by decide) ?_
      refine lv_icmp_lt (tgt := 34) hx hb dX10_gain_24 (by decide) (fun hc5 => ?_) (fun hc5 => ?_)
      · have hF := bq_t hc5 hF
        refine lv_bipush (v := (-2)) hx hb dX10_gain_34 (by decide) ?_
        exact m_iret hx hb hr hlocks hH hE hF rfl dX10_gain_36
      · have hF := bq_f hc5 hF
        refine lv_iload_n hx hb dX10_gain_27 rfl (lv_at hl 4 rfl) ?_
        refine lv_sipush (v := (1000)) hx hb dX10_gain_28 (by decide) ?_
        refine lv_icmp_le (tgt := 37) hx hb dX10_gain_31 (by decide) (fun hc6 => ?_) (fun hc6 => ?_)
        · have hF := bq_t hc6 hF
          refine lv_iload hx hb dX10_gain_37 (lv_at hl 5 rfl) ?_
          refine m_cSI hx hb hml hown hk hH hE.le hz (As := [.int x4]) (rest := []) (t_X10_isValue l D cy z x4) hF wd_343 wd_344 wd_33 wd_345 yn_X10_isValue ⟨Nat.le_trans (by decide) hfr, Nat.le_trans (by decide) hlo⟩ hl.1 (by first | exact Nat.le_of_ble_eq_true rfl | simp [m_cat, m_ci, m_cl, m_cf, m_cd, m_cr]) rfl dX10_gain_39 (fun c8 ws H locs cells slots hH hF => ?_)
          refine lv_if_eq (tgt := 59) hx hb dX10_gain_42 (by decide) (fun hc8 => ?_) (fun hc8 => ?_)
          · have hF := bq_t hc8 hF
            refine lv_bipush (v := (-2)) hx hb dX10_gain_59 (by decide) ?_
            exact m_iret hx hb hr hlocks hH hE hF rfl dX10_gain_61
          · have hF := bq_f hc8 hF
            refine lv_aload_n hx hb dX10_gain_45 rfl (lv_at hl 1 rfl) ?_
            refine lv_iconst (v := (1)) hx hb dX10_gain_46 (by decide) ?_
            refine m_aload hx hb dX10_gain_47 (lv_at hl 0 rfl) ?_
            refine m_gI hx hb hown hk hH hF fk_RX1_work lk_RX10_117 dX10_gain_49 (fun v10 hF => ?_)
            refine lv_iadd hx hb dX10_gain_52 ?_
            refine m_cVI hx hb hml hown hk hH hE.le hz (F := fun q12 => F_X10_hasRoomFor q12.1 ((1 : Int32) + v10)) (C := RX10) (T := TX10) (N := 7) rfl (As := [.int ((1 : Int32) + v10)]) (rest := []) (fun o => t_X10_hasRoomFor l D cy z o ((1 : Int32) + v10)) hF wd_227 wd_229 wd_33 wd_230 wd_1 yn_X10_hasRoomFor ⟨Nat.le_trans (by decide) hfr, Nat.le_trans (by decide) hlo⟩ hl.1 (by first | exact Nat.le_of_ble_eq_true rfl | simp [m_cat, m_ci, m_cl, m_cf, m_cd, m_cr]) rfl dX10_gain_53 (fun c11 ws H locs cells slots hH hF => ?_)
            refine lv_if_ne (tgt := 62) hx hb dX10_gain_56 (by decide) (fun hc12 => ?_) (fun hc12 => ?_)
            · have hF := bq_f hc12 hF
              refine lv_aload_n hx hb dX10_gain_62 rfl (lv_at hl 1 rfl) ?_
              refine m_new hx hb hown hk hH hE.le hz hF rfl nf_RX7 wd_347 wd_348 wd_43 dX10_gain_63 (fun a14 ws H hH hF => ?_)
              refine lv_dup hx hb dX10_gain_66 rfl ?_
              refine lv_iconst (v := (5)) hx hb dX10_gain_67 (by decide) ?_
              refine m_aload hx hb dX10_gain_68 (lv_at hl 0 rfl) ?_
              refine lv_null hx hb dX10_gain_70 ?_
              refine lv_iload_n hx hb dX10_gain_71 rfl (lv_at hl 3 rfl) ?_
              refine lv_iload_n hx hb dX10_gain_72 rfl (lv_at hl 4 rfl) ?_
              refine lv_iload hx hb dX10_gain_73 (lv_at hl 5 rfl) ?_
              refine m_cI hx hb hml hown hk hH hE.le hz (b := a14) (As := [.int (5 : Int32), va_rf c1, .null, .int x2, .int x3, .int x4]) (rest := [.ref a14, .ref o]) (t_X7_init l D cy z a14 (5 : Int32) c1 none x2 x3 x4) hF wd_349 wd_350 wd_43 wd_351 yn_X7_init rfl ⟨Nat.le_trans (by decide) hfr, Nat.le_trans (by decide) hlo⟩ hl.1 (by first | exact Nat.le_of_ble_eq_true rfl | simp [m_cat, m_ci, m_cl, m_cf, m_cd, m_cr]) rfl dX10_gain_75 (fun c15 ws H locs cells slots hH hF => ?_)
              refine m_cVI hx hb hml hown hk hH hE.le hz (F := fun q17 => F_X10_keep q17.1 (some a14)) (C := RX10) (T := TX10) (N := 7) rfl (As := [.ref a14]) (rest := []) (fun o => t_X10_keep l D cy z o (some a14)) hF wd_273 wd_275 wd_33 wd_276 wd_2 yn_X10_keep ⟨Nat.le_trans (by decide) hfr, Nat.le_trans (by decide) hlo⟩ hl.1 (by first | exact Nat.le_of_ble_eq_true rfl | simp [m_cat, m_ci, m_cl, m_cf, m_cd, m_cr]) rfl dX10_gain_78 (fun c16 ws H locs cells slots hH hF => ?_)
              exact m_iret hx hb hr hlocks hH hE hF rfl dX10_gain_81
            · have hF := bq_t hc12 hF
              refine lv_bipush (v := (-2)) hx hb dX10_gain_59 (by decide) ?_
              exact m_iret hx hb hr hlocks hH hE hF rfl dX10_gain_61
        · have hF := bq_f hc6 hF
          refine lv_bipush (v := (-2)) hx hb dX10_gain_34 (by decide) ?_
          exact m_iret hx hb hr hlocks hH hE hF rfl dX10_gain_36

def F_X10_mirror (o : Nat) (x1 : Int32) : St (Int32) :=
  bd (dr [9] (some o)) fun q2 => bd (F_X10_curveNumbered q2.1 x1) fun c1 => br (c1 = none) (rt (-2 : Int32)) (bd (gI [3, 4, 6] 1 c1) fun v4 => bd (dr [9] (some o)) fun q6 => bd (F_X10_hasRoomFor q6.1 ((1 : Int32) + v4)) fun c5 => br (c5 = 0) (rt (-2 : Int32)) (bd (mk 10 (.inr (6, [.int 0, .int 0, .null, .null, .int 0, .null, .null, .int 0, .int 0, .int 0]))) fun a8 => bd (F_X7_init a8 (6 : Int32) c1 none (0 : Int32) (0 : Int32) (0 : Int32)) fun c9 => bd (dr [9] (some o)) fun q11 => bd (F_X10_keep q11.1 (some a8)) fun c10 => rt c10))
set_option maxHeartbeats 4000000 in
set_option maxRecDepth 100000 in
theorem t_X10_mirror (l : Launch) (D : va_G) (cy : Nat → ClassId) (z : Nat) (o : Nat) (x1 : Int32) : MT l D cy z yX10_mirror cX10_mirror 3 (some .int) 3 88 (F_X10_mirror o x1) vI [.ref o, .int x1] := by
  refine m_enter [(0, .ref o), (1, .int x1)] (by decide) (by first | rfl | simp [lv_args, m_cat, m_ci, m_cl, m_cf, m_cd, m_cr]) (by first | exact Nat.le_of_ble_eq_true rfl | simp [lg_sl, m_cat, m_ci, m_cl, m_cf, m_cd, m_cr]) ?_
  intro p e R s m args below meth c ws0 wsf rr cx hE ws H locs cells slots ls hl hH hF
  obtain ⟨hx, hb, hr, hml, hown, hk, hz, hlocks, hnm, hfr, hlo⟩ := id cx
  unfold F_X10_mirror at hF
  refine lv_aload_n hx hb dX10_mirror_0 rfl (lv_at hl 0 rfl) ?_
  refine lv_iload_n hx hb dX10_mirror_1 rfl (lv_at hl 1 rfl) ?_
  refine m_cVR hx hb hml hown hk hH hE.le hz (F := fun q2 => F_X10_curveNumbered q2.1 x1) (C := RX10) (T := TX10) (N := 7) rfl (As := [.int x1]) (rest := []) (fun o => t_X10_curveNumbered l D cy z o x1) hF wd_339 wd_341 wd_33 wd_342 wd_5 yn_X10_curveNumbered ⟨Nat.le_trans (by decide) hfr, Nat.le_trans (by decide) hlo⟩ hl.1 (by first | exact Nat.le_of_ble_eq_true rfl | simp [m_cat, m_ci, m_cl, m_cf, m_cd, m_cr]) rfl dX10_mirror_2 (fun c1 ws H locs cells slots hH hF => ?_)
  refine m_astore_n (lv' := [(2, va_rf c1), (0, .ref o), (1, .int x1)]) hx hb dX10_mirror_5 rfl hl (by decide) (by first | rfl | simp [m_cat, m_ci, m_cl, m_cf, m_cd, m_cr]) (fun ls hl => ?_)
  refine m_aload_n hx hb dX10_mirror_6 rfl (lv_at hl 0 rfl) ?_
  refine m_ifnull (tgt := 23) hx hb dX10_mirror_7 (by decide) (fun hc2 => ?_) (fun hc2 => ?_)
  · have hF := bq_t hc2 hF
    refine lv_bipush (v := (-2)) hx hb dX10_mirror_23 (by decide) ?_
    exact m_iret hx hb hr hlocks hH hE hF rfl dX10_mirror_25
  · have hF := bq_f hc2 hF
    refine lv_aload_n hx hb dX10_mirror_10 rfl (lv_at hl 1 rfl) ?_
    refine lv_iconst (v := (1)) hx hb dX10_mirror_11 (by decide) ?_
    refine m_aload_n hx hb dX10_mirror_12 rfl (lv_at hl 0 rfl) ?_
    refine m_gI hx hb hown hk hH hF fk_RX1_work lk_RX10_117 dX10_mirror_13 (fun v4 hF => ?_)
    refine lv_iadd hx hb dX10_mirror_16 ?_
    refine m_cVI hx hb hml hown hk hH hE.le hz (F := fun q6 => F_X10_hasRoomFor q6.1 ((1 : Int32) + v4)) (C := RX10) (T := TX10) (N := 7) rfl (As := [.int ((1 : Int32) + v4)]) (rest := []) (fun o => t_X10_hasRoomFor l D cy z o ((1 : Int32) + v4)) hF wd_227 wd_229 wd_33 wd_230 wd_1 yn_X10_hasRoomFor ⟨Nat.le_trans (by decide) hfr, Nat.le_trans (by decide) hlo⟩ hl.1 (by first | exact Nat.le_of_ble_eq_true rfl | simp [m_cat, m_ci, m_cl, m_cf, m_cd, m_cr]) rfl dX10_mirror_17 (fun c5 ws H locs cells slots hH hF => ?_)
    refine lv_if_ne (tgt := 26) hx hb dX10_mirror_20 (by decide) (fun hc6 => ?_) (fun hc6 => ?_)
    · have hF := bq_f hc6 hF
      refine lv_aload_n hx hb dX10_mirror_26 rfl (lv_at hl 1 rfl) ?_
      refine m_new hx hb hown hk hH hE.le hz hF rfl nf_RX7 wd_347 wd_348 wd_43 dX10_mirror_27 (fun a8 ws H hH hF => ?_)
      refine lv_dup hx hb dX10_mirror_30 rfl ?_
      refine lv_bipush (v := (6)) hx hb dX10_mirror_31 (by decide) ?_
      refine m_aload_n hx hb dX10_mirror_33 rfl (lv_at hl 0 rfl) ?_
      refine lv_null hx hb dX10_mirror_34 ?_
      refine lv_iconst (v := (0)) hx hb dX10_mirror_35 (by decide) ?_
      refine lv_iconst (v := (0)) hx hb dX10_mirror_36 (by decide) ?_
      refine lv_iconst (v := (0)) hx hb dX10_mirror_37 (by decide) ?_
      refine m_cI hx hb hml hown hk hH hE.le hz (b := a8) (As := [.int (6 : Int32), va_rf c1, .null, .int (0 : Int32), .int (0 : Int32), .int (0 : Int32)]) (rest := [.ref a8, .ref o]) (t_X7_init l D cy z a8 (6 : Int32) c1 none (0 : Int32) (0 : Int32) (0 : Int32)) hF wd_349 wd_350 wd_43 wd_351 yn_X7_init rfl ⟨Nat.le_trans (by decide) hfr, Nat.le_trans (by decide) hlo⟩ hl.1 (by first | exact Nat.le_of_ble_eq_true rfl | simp [m_cat, m_ci, m_cl, m_cf, m_cd, m_cr]) rfl dX10_mirror_38 (fun c9 ws H locs cells slots hH hF => ?_)
      refine m_cVI hx hb hml hown hk hH hE.le hz (F := fun q11 => F_X10_keep q11.1 (some a8)) (C := RX10) (T := TX10) (N := 7) rfl (As := [.ref a8]) (rest := []) (fun o => t_X10_keep l D cy z o (some a8)) hF wd_273 wd_275 wd_33 wd_276 wd_2 yn_X10_keep ⟨Nat.le_trans (by decide) hfr, Nat.le_trans (by decide) hlo⟩ hl.1 (by first | exact Nat.le_of_ble_eq_true rfl | simp [m_cat, m_ci, m_cl, m_cf, m_cd, m_cr]) rfl dX10_mirror_41 (fun c10 ws H locs cells slots hH hF => ?_)
      exact m_iret hx hb hr hlocks hH hE hF rfl dX10_mirror_44
    · have hF := bq_t hc6 hF
      refine lv_bipush (v := (-2)) hx hb dX10_mirror_23 (by decide) ?_
      exact m_iret hx hb hr hlocks hH hE hF rfl dX10_mirror_25

def F_X10_value (o : Nat) (x1 : Int32) (x2 : Int32) : St (Int32) :=
  bd (dr [9] (some o)) fun q2 => bd (F_X10_curveNumbered q2.1 x1) fun c1 => br (c1 = none) (rt (-2000000 : Int32)) (bd (F_X10_isCount x2) fun c4 => br (c4 = 0) (rt (-2000000 : Int32)) (bd (dr [3, 4, 6] c1) fun q7 => bd (F_X1_at 64 q7.1 x2) fun c6 => rt c6))
set_option maxHeartbeats 4000000 in
set_option maxRecDepth 100000 in
theorem t_X10_value (l : Launch) (D : va_G) (cy : Nat → ClassId) (z : Nat) (o : Nat) (x1 : Int32) (x2 : Int32) : MT l D cy z yX10_value cX10_value 4 (some .int) 326 9921 (F_X10_value o x1 x2) vI [.ref o, .int x1, .int x2] := by
  refine m_enter [(0, .ref o), (1, .int x1), (2, .int x2)] (by decide) (by first | rfl | simp [lv_args, m_cat, m_ci, m_cl, m_cf, m_cd, m_cr]) (by first | exact Nat.le_of_ble_eq_true rfl | simp [lg_sl, m_cat, m_ci, m_cl, m_cf, m_cd, m_cr]) ?_
  intro p e R s m args below meth c ws0 wsf rr cx hE ws H locs cells slots ls hl hH hF
  obtain ⟨hx, hb, hr, hml, hown, hk, hz, hlocks, hnm, hfr, hlo⟩ := id cx
  unfold F_X10_value at hF
  refine lv_aload_n hx hb dX10_value_0 rfl (lv_at hl 0 rfl) ?_
  refine lv_iload_n hx hb dX10_value_1 rfl (lv_at hl 1 rfl) ?_
  refine m_cVR hx hb hml hown hk hH hE.le hz (F := fun q2 => F_X10_curveNumbered q2.1 x1) (C := RX10) (T := TX10) (N := 7) rfl (As := [.int x1]) (rest := []) (fun o => t_X10_curveNumbered l D cy z o x1) hF wd_339 wd_341 wd_33 wd_342 wd_5 yn_X10_curveNumbered ⟨Nat.le_trans (by decide) hfr, Nat.le_trans (by decide) hlo⟩ hl.1 (by first | exact Nat.le_of_ble_eq_true rfl | simp [m_cat, m_ci, m_cl, m_cf, m_cd, m_cr]) rfl dX10_value_2 (fun c1 ws H locs cells slots hH hF => ?_)
  refine m_astore_n (lv' := [(3, va_rf c1), (0, .ref o), (1, .int x1), (2, .int x2)]) hx hb dX10_value_5 rfl hl (by decide) (by first | rfl | simp [m_cat, m_ci, m_cl, m_cf, m_cd, m_cr]) (fun ls hl => ?_)
  refine m_aload_n hx hb dX10_value_6 rfl (lv_at hl 0 rfl) ?_
  refine m_ifnull (tgt := 17) hx hb dX10_value_7 (by decide) (fun hc2 => ?_) (fun hc2 => ?_)
  · have hF := bq_t hc2 hF
    refine lv_ldc hx hb hown (hk.wd wd_396 args) dX10_value_17 ?_
    refine lv_goto (tgt := 27) hx hb dX10_value_19 (by decide) ?_
    exact m_iret hx hb hr hlocks hH hE hF rfl dX10_value_27
  · have hF := bq_f hc2 hF
    refine lv_iload_n hx hb dX10_value_10 rfl (lv_at hl 3 rfl) ?_
    refine m_cSI hx hb hml hown hk hH hE.le hz (As := [.int x2]) (rest := []) (t_X10_isCount l D cy z x2) hF wd_197 wd_198 wd_33 wd_199 yn_X10_isCount ⟨Nat.le_trans (by decide) hfr, Nat.le_trans (by decide) hlo⟩ hl.1 (by first | exact Nat.le_of_ble_eq_true rfl | simp [m_cat, m_ci, m_cl, m_cf, m_cd, m_cr]) rfl dX10_value_11 (fun c4 ws H locs cells slots hH hF => ?_)
    refine lv_if_ne (tgt := 22) hx hb dX10_value_14 (by decide) (fun hc4 => ?_) (fun hc4 => ?_)
    · have hF := bq_f hc4 hF
      refine m_aload_n hx hb dX10_value_22 rfl (lv_at hl 0 rfl) ?_
      refine lv_iload_n hx hb dX10_value_23 rfl (lv_at hl 3 rfl) ?_
      refine m_cUI hx hb hml hown hk hH hE.le hz (x := yX1_at) (owner := "CurveFoundry$Curve") (y := (fun _ => yX1_at)) (bytes := (fun _ => cX1_at)) (maxL := (fun _ => 2)) (fr := (fun _ => 325)) (lo := (fun _ => 9900)) (F := fun q7 => F_X1_at 64 q7.1 x2) (As := [.int x2]) (rest := []) (fun o => m_c3 (t_X1_at l D cy z 64 o x2) (t_X1_at l D cy z 64 o x2) (t_X1_at l D cy z 64 o x2)) hF wd_397 wd_399 (va_Decl.of (hk.wd wd_398 args) (hk.wd wd_403 args)) (m_c3 ⟨_, rfl, wd_400, wd_398, wd_39, wd_403, Nat.le_trans (by decide) hfr, Nat.le_trans (by decide) hlo⟩ ⟨_, rfl, wd_401, wd_398, wd_39, wd_403, Nat.le_trans (by decide) hfr, Nat.le_trans (by decide) hlo⟩ ⟨_, rfl, wd_402, wd_398, wd_39, wd_403, Nat.le_trans (by decide) hfr, Nat.le_trans (by decide) hlo⟩) yc_at hl.1 (by first | exact Nat.le_of_ble_eq_true rfl | simp [m_cat, m_ci, m_cl, m_cf, m_cd, m_cr]) rfl dX10_value_24 (fun c6 ws H locs cells slots hH hF => ?_)
      exact m_iret hx hb hr hlocks hH hE hF rfl dX10_value_27
    · have hF := bq_t hc4 hF
      refine lv_ldc hx hb hown (hk.wd wd_396 args) dX10_value_17 ?_
      refine lv_goto (tgt := 27) hx hb dX10_value_19 (by decide) ?_
      exact m_iret hx hb hr hlocks hH hE hF rfl dX10_value_27

def F_X10_about (o : Nat) (x1 : Int32) (x2 : Int32) : St (Int32) :=
  bd (dr [9] (some o)) fun q2 => bd (F_X10_curveNumbered q2.1 x1) fun c1 => br (c1 = none) (rt (-2000000 : Int32)) (bd (rt x2) fun w4 => br (w4 = (0)) (bd (gI [3, 4, 6] 0 c1) fun v5 => rt v5) (br (w4 = (1)) (bd (gI [3, 4, 6] 1 c1) fun v6 => rt v6) (br (w4 = (2)) (bd (dr [3, 4, 6] c1) fun q8 => bd (F_X1_formed q8.1) fun c7 => bd (gI [1] 1 c7) fun v9 => rt v9) (br (w4 = (3)) (bd (dr [3, 4, 6] c1) fun q11 => bd (F_X1_formed q11.1) fun c10 => bd (gI [1] 2 c10) fun v12 => rt v12) (br (w4 = (4)) (bd (dr [3, 4, 6] c1) fun q14 => bd (F_X1_formed q14.1) fun c13 => bd (gI [1] 3 c13) fun v15 => rt v15) (br (w4 = (5)) (bd (dr [3, 4, 6] c1) fun q17 => bd (F_X1_formed q17.1) fun c16 => bd (gI [1] 4 c16) fun v18 => rt v18) (rt (-2000000 : Int32))))))))
set_option maxHeartbeats 4000000 in
set_option maxRecDepth 100000 in
theorem t_X10_about (l : Launch) (D : va_G) (cy : Nat → ClassId) (z : Nat) (o : Nat) (x1 : Int32) (x2 : Int32) : MT l D cy z yX10_about cX10_about 4 (some .int) 786 23842 (F_X10_about o x1 x2) vI [.ref o, .int x1, .int x2] := by
  refine m_enter [(0, .ref o), (1, .int x1), (2, .int x2)] (by decide) (by first | rfl | simp [lv_args, m_cat, m_ci, m_cl, m_cf, m_cd, m_cr]) (by first | exact Nat.le_of_ble_eq_true rfl | simp [lg_sl, m_cat, m_ci, m_cl, m_cf, m_cd, m_cr]) ?_
  intro p e R s m args below meth c ws0 wsf rr cx hE ws H locs cells slots ls hl hH hF
  obtain ⟨hx, hb, hr, hml, hown, hk, hz, hlocks, hnm, hfr, hlo⟩ := id cx
  unfold F_X10_about at hF
  refine lv_aload_n hx hb dX10_about_0 rfl (lv_at hl 0 rfl) ?_
  refine lv_iload_n hx hb dX10_about_1 rfl (lv_at hl 1 rfl) ?_
  refine m_cVR hx hb hml hown hk hH hE.le hz (F := fun q2 => F_X10_curveNumbered q2.1 x1) (C := RX10) (T := TX10) (N := 7) rfl (As := [.int x1]) (rest := []) (fun o => t_X10_curveNumbered l D cy z o x1) hF wd_339 wd_341 wd_33 wd_342 wd_5 yn_X10_curveNumbered ⟨Nat.le_trans (by decide) hfr, Nat.le_trans (by decide) hlo⟩ hl.1 (by first | exact Nat.le_of_ble_eq_true rfl | simp [m_cat, m_ci, m_cl, m_cf, m_cd, m_cr]) rfl dX10_about_2 (fun c1 ws H locs cells slots hH hF => ?_)
  refine m_astore_n (lv' := [(3, va_rf c1), (0, .ref o), (1, .int x1), (2, .int x2)]) hx hb dX10_about_5 rfl hl (by decide) (by first | rfl | simp [m_cat, m_ci, m_cl, m_cf, m_cd, m_cr]) (fun ls hl => ?_)
  refine m_aload_n hx hb dX10_about_6 rfl (lv_at hl 0 rfl) ?_
  refine m_ifnonnull (tgt := 13) hx hb dX10_about_7 (by decide) (fun hc2 => ?_) (fun hc2 => ?_)
  · have hF := bq_f hc2 hF
    refine lv_iload_n hx hb dX10_about_13 rfl (lv_at hl 3 rfl) ?_
    refine lv_topi (fun w4 hw4 => ?_)
    have hF := rt_t hw4 hF
    by_cases hkw4_0 : w4 = (0)
    · have hF := bq_t hkw4_0 hF
      refine lv_tableIn (off := 38) (tgt := 52) hx hb dX10_about_14 (by rw [hkw4_0]; decide) (by rw [hkw4_0]; decide) (by rw [hkw4_0]; decide) (by decide) ?_
      refine m_aload_n hx hb dX10_about_52 rfl (lv_at hl 0 rfl) ?_
      refine m_gI hx hb hown hk hH hF fk_RX1_sort lk_RX10_130 dX10_about_53 (fun v5 hF => ?_)
      exact m_iret hx hb hr hlocks hH hE hF rfl dX10_about_56
    · have hF := bq_f hkw4_0 hF
      by_cases hkw4_1 : w4 = (1)
      · have hF := bq_t hkw4_1 hF
        refine lv_tableIn (off := 43) (tgt := 57) hx hb dX10_about_14 (by rw [hkw4_1]; decide) (by rw [hkw4_1]; decide) (by rw [hkw4_1]; decide) (by decide) ?_
        refine m_aload_n hx hb dX10_about_57 rfl (lv_at hl 0 rfl) ?_
        refine m_gI hx hb hown hk hH hF fk_RX1_work lk_RX10_117 dX10_about_58 (fun v6 hF => ?_)
        exact m_iret hx hb hr hlocks hH hE hF rfl dX10_about_61
      · have hF := bq_f hkw4_1 hF
        by_cases hkw4_2 : w4 = (2)
        · have hF := bq_t hkw4_2 hF
          refine lv_tableIn (off := 48) (tgt := 62) hx hb dX10_about_14 (by rw [hkw4_2]; decide) (by rw [hkw4_2]; decide) (by rw [hkw4_2]; decide) (by decide) ?_
          refine m_aload_n hx hb dX10_about_62 rfl (lv_at hl 0 rfl) ?_
          refine m_cUR hx hb hml hown hk hH hE.le hz (x := yX1_formed) (owner := "CurveFoundry$Curve") (y := (fun _ => yX1_formed)) (bytes := (fun _ => cX1_formed)) (maxL := (fun _ => 1)) (fr := (fun _ => 785)) (lo := (fun _ => 23822)) (F := fun q8 => F_X1_formed q8.1) (As := []) (rest := []) (fun o => m_c3 (t_X1_formed l D cy z o) (t_X1_formed l D cy z o) (t_X1_formed l D cy z o)) hF wd_455 wd_457 (va_Decl.of (hk.wd wd_456 args) (hk.wd wd_461 args)) (m_c3 ⟨_, rfl, wd_458, wd_456, wd_39, wd_461, Nat.le_trans (by decide) hfr, Nat.le_trans (by decide) hlo⟩ ⟨_, rfl, wd_459, wd_456, wd_39, wd_461, Nat.le_trans (by decide) hfr, Nat.le_trans (by decide) hlo⟩ ⟨_, rfl, wd_460, wd_456, wd_39, wd_461, Nat.le_trans (by decide) hfr, Nat.le_trans (by decide) hlo⟩) yc_formed hl.1 (by first | exact Nat.le_of_ble_eq_true rfl | simp [m_cat, m_ci, m_cl, m_cf, m_cd, m_cr]) rfl dX10_about_63 (fun c7 ws H locs cells slots hH hF => ?_)
          refine m_gI hx hb hown hk hH hF fk_RX2_trend lk_RX10_137 dX10_about_66 (fun v9 hF => ?_)
          exact m_iret hx hb hr hlocks hH hE hF rfl dX10_about_69
        · have hF := bq_f hkw4_2 hF
          by_cases hkw4_3 : w4 = (3)
          · have hF := bq_t hkw4_3 hF
            refine lv_tableIn (off := 56) (tgt := 70) hx hb dX10_about_14 (by rw [hkw4_3]; decide) (by rw [hkw4_3]; decide) (by rw [hkw4_3]; decide) (by decide) ?_
            refine m_aload_n hx hb dX10_about_70 rfl (lv_at hl 0 rfl) ?_
            refine m_cUR hx hb hml hown hk hH hE.le hz (x := yX1_formed) (owner := "CurveFoundry$Curve") (y := (fun _ => yX1_formed)) (bytes := (fun _ => cX1_formed)) (maxL := (fun _ => 1)) (fr := (fun _ => 785)) (lo := (fun _ => 23822)) (F := fun q11 => F_X1_formed q11.1) (As := []) (rest := []) (fun o => m_c3 (t_X1_formed l D cy z o) (t_X1_formed l D cy z o) (t_X1_formed l D cy z o)) hF wd_455 wd_457 (va_Decl.of (hk.wd wd_456 args) (hk.wd wd_461 args)) (m_c3 ⟨_, rfl, wd_458, wd_456, wd_39, wd_461, Nat.le_trans (by decide) hfr, Nat.le_trans (by decide) hlo⟩ ⟨_, rfl, wd_459, wd_456, wd_39, wd_461, Nat.le_trans (by decide) hfr, Nat.le_trans (by decide) hlo⟩ ⟨_, rfl, wd_460, wd_456, wd_39, wd_461, Nat.le_trans (by decide) hfr, Nat.le_trans (by decide) hlo⟩) yc_formed hl.1 (by first | exact Nat.le_of_ble_eq_true rfl | simp [m_cat, m_ci, m_cl, m_cf, m_cd, m_cr]) rfl dX10_about_71 (fun c10 ws H locs cells slots hH hF => ?_)
            refine m_gI hx hb hown hk hH hF fk_RX2_turnCount lk_RX10_142 dX10_about_74 (fun v12 hF => ?_)
            exact m_iret hx hb hr hlocks hH hE hF rfl dX10_about_77
          · have hF := bq_f hkw4_3 hF
            by_cases hkw4_4 : w4 = (4)
            · have hF := bq_t hkw4_4 hF
              refine lv_tableIn (off := 64) (tgt := 78) hx hb dX10_about_14 (by rw [hkw4_4]; decide) (by rw [hkw4_4]; decide) (by rw [hkw4_4]; decide) (by decide) ?_
              refine m_aload_n hx hb dX10_about_78 rfl (lv_at hl 0 rfl) ?_
              refine m_cUR hx hb hml hown hk hH hE.le hz (x := yX1_formed) (owner := "CurveFoundry$Curve") (y := (fun _ => yX1_formed)) (bytes := (fun _ => cX1_formed)) (maxL := (fun _ => 1)) (fr := (fun _ => 785)) (lo := (fun _ => 23822)) (F := fun q14 => F_X1_formed q14.1) (As := []) (rest := []) (fun o => m_c3 (t_X1_formed l D cy z o) (t_X1_formed l D cy z o) (t_X1_formed l D cy z o)) hF wd_455 wd_457 (va_Decl.of (hk.wd wd_456 args) (hk.wd wd_461 args)) (m_c3 ⟨_, rfl, wd_458, wd_456, wd_39, wd_461, Nat.le_trans (by decide) hfr, Nat.le_trans (by decide) hlo⟩ ⟨_, rfl, wd_459, wd_456, wd_39, wd_461, Nat.le_trans (by decide) hfr, Nat.le_trans (by decide) hlo⟩ ⟨_, rfl, wd_460, wd_456, wd_39, wd_461, Nat.le_trans (by decide) hfr, Nat.le_trans (by decide) hlo⟩) yc_formed hl.1 (by first | exact Nat.le_of_ble_eq_true rfl | simp [m_cat, m_ci, m_cl, m_cf, m_cd, m_cr]) rfl dX10_about_79 (fun c13 ws H locs cells slots hH hF => ?_)
              refine m_gI hx hb hown hk hH hF fk_RX2_least lk_RX10_145 dX10_about_82 (fun v15 hF => ?_)
              exact m_iret hx hb hr hlocks hH hE hF rfl dX10_about_85
            · have hF := bq_f hkw4_4 hF
              by_cases hkw4_5 : w4 = (5)
              · have hF := bq_t hkw4_5 hF
                refine lv_tableIn (off := 72) (tgt := 86) hx hb dX10_about_14 (by rw [hkw4_5]; decide) (by rw [hkw4_5]; decide) (by rw [hkw4_5]; decide) (by decide) ?_
                refine m_aload_n hx hb dX10_about_86 rfl (lv_at hl 0 rfl) ?_
                refine m_cUR hx hb hml hown hk hH hE.le hz (x := yX1_formed) (owner := "CurveFoundry$Curve") (y := (fun _ => yX1_formed)) (bytes := (fun _ => cX1_formed)) (maxL := (fun _ => 1)) (fr := (fun _ => 785)) (lo := (fun _ => 23822)) (F := fun q17 => F_X1_formed q17.1) (As := []) (rest := []) (fun o => m_c3 (t_X1_formed l D cy z o) (t_X1_formed l D cy z o) (t_X1_formed l D cy z o)) hF wd_455 wd_457 (va_Decl.of (hk.wd wd_456 args) (hk.wd wd_461 args)) (m_c3 ⟨_, rfl, wd_458, wd_456, wd_39, wd_461, Nat.le_trans (by decide) hfr, Nat.le_trans (by decide) hlo⟩ ⟨_, rfl, wd_459, wd_456, wd_39, wd_461, Nat.le_trans (by decide) hfr, Nat.le_trans (by decide) hlo⟩ ⟨_, rfl, wd_460, wd_456, wd_39, wd_461, Nat.le_trans (by decide) hfr, Nat.le_trans (by decide) hlo⟩) yc_formed hl.1 (by first | exact Nat.le_of_ble_eq_true rfl | simp [m_cat, m_ci, m_cl, m_cf, m_cd, m_cr]) rfl dX10_about_87 (fun c16 ws H locs cells slots hH hF => ?_)
                refine m_gI hx hb hown hk hH hF fk_RX2_greatest lk_RX10_148 dX10_about_90 (fun v18 hF => ?_)
                exact m_iret hx hb hr hlocks hH hE hF rfl dX10_about_93
              · have hF := bq_f hkw4_5 hF
                refine lv_tableOut (tgt := 94) hx hb dX10_about_14 (by have g0 := lv_neT hkw4_0 (a := 0) (by decide); have g1 := lv_neT hkw4_1 (a := 1) (by decide); have g2 := lv_neT hkw4_2 (a := 2) (by decide); have g3 := lv_neT hkw4_3 (a := 3) (by decide); have g4 := lv_neT hkw4_4 (a := 4) (by decide); have g5 := lv_neT hkw4_5 (a := 5) (by decide); omega) (by decide) ?_
                refine lv_ldc hx hb hown (hk.wd wd_396 args) dX10_about_94 ?_
                exact m_iret hx hb hr hlocks hH hE hF rfl dX10_about_96
  · have hF := bq_t hc2 hF
    refine lv_ldc hx hb hown (hk.wd wd_396 args) dX10_about_10 ?_
    exact m_iret hx hb hr hlocks hH hE hF rfl dX10_about_12

def F_X10_turn (o : Nat) (x1 : Int32) (x2 : Int32) : St (Int32) :=
  bd (dr [9] (some o)) fun q2 => bd (F_X10_curveNumbered q2.1 x1) fun c1 => br (c1 = none) (rt (-2 : Int32)) (bd (dr [3, 4, 6] c1) fun q5 => bd (F_X1_formed q5.1) fun c4 => bd (dr [1] c4) fun q7 => bd (F_X2_turnNumbered q7.1 x2) fun c6 => rt c6)
set_option maxHeartbeats 4000000 in
set_option maxRecDepth 100000 in
theorem t_X10_turn (l : Launch) (D : va_G) (cy : Nat → ClassId) (z : Nat) (o : Nat) (x1 : Int32) (x2 : Int32) : MT l D cy z yX10_turn cX10_turn 4 (some .int) 786 23842 (F_X10_turn o x1 x2) vI [.ref o, .int x1, .int x2] := by
  refine m_enter [(0, .ref o), (1, .int x1), (2, .int x2)] (by decide) (by first | rfl | simp [lv_args, m_cat, m_ci, m_cl, m_cf, m_cd, m_cr]) (by first | exact Nat.le_of_ble_eq_true rfl | simp [lg_sl, m_cat, m_ci, m_cl, m_cf, m_cd, m_cr]) ?_
  intro p e R s m args below meth c ws0 wsf rr cx hE ws H locs cells slots ls hl hH hF
  obtain ⟨hx, hb, hr, hml, hown, hk, hz, hlocks, hnm, hfr, hlo⟩ := id cx
  unfold F_X10_turn at hF
  refine lv_aload_n hx hb dX10_turn_0 rfl (lv_at hl 0 rfl) ?_
  refine lv_iload_n hx hb dX10_turn_1 rfl (lv_at hl 1 rfl) ?_
  refine m_cVR hx hb hml hown hk hH hE.le hz (F := fun q2 => F_X10_curveNumbered q2.1 x1) (C := RX10) (T := TX10) (N := 7) rfl (As := [.int x1]) (rest := []) (fun o => t_X10_curveNumbered l D cy z o x1) hF wd_339 wd_341 wd_33 wd_342 wd_5 yn_X10_curveNumbered ⟨Nat.le_trans (by decide) hfr, Nat.le_trans (by decide) hlo⟩ hl.1 (by first | exact Nat.le_of_ble_eq_true rfl | simp [m_cat, m_ci, m_cl, m_cf, m_cd, m_cr]) rfl dX10_turn_2 (fun c1 ws H locs cells slots hH hF => ?_)
  refine m_astore_n (lv' := [(3, va_rf c1), (0, .ref o), (1, .int x1), (2, .int x2)]) hx hb dX10_turn_5 rfl hl (by decide) (by first | rfl | simp [m_cat, m_ci, m_cl, m_cf, m_cd, m_cr]) (fun ls hl => ?_)
  refine m_aload_n hx hb dX10_turn_6 rfl (lv_at hl 0 rfl) ?_
  refine m_ifnonnull (tgt := 15) hx hb dX10_turn_7 (by decide) (fun hc2 => ?_) (fun hc2 => ?_)
  · have hF := bq_f hc2 hF
    refine m_aload_n hx hb dX10_turn_15 rfl (lv_at hl 0 rfl) ?_
    refine m_cUR hx hb hml hown hk hH hE.le hz (x := yX1_formed) (owner := "CurveFoundry$Curve") (y := (fun _ => yX1_formed)) (bytes := (fun _ => cX1_formed)) (maxL := (fun _ => 1)) (fr := (fun _ => 785)) (lo := (fun _ => 23822)) (F := fun q5 => F_X1_formed q5.1) (As := []) (rest := []) (fun o => m_c3 (t_X1_formed l D cy z o) (t_X1_formed l D cy z o) (t_X1_formed l D cy z o)) hF wd_455 wd_457 (va_Decl.of (hk.wd wd_456 args) (hk.wd wd_461 args)) (m_c3 ⟨_, rfl, wd_458, wd_456, wd_39, wd_461, Nat.le_trans (by decide) hfr, Nat.le_trans (by decide) hlo⟩ ⟨_, rfl, wd_459, wd_456, wd_39, wd_461, Nat.le_trans (by decide) hfr, Nat.le_trans (by decide) hlo⟩ ⟨_, rfl, wd_460, wd_456, wd_39, wd_461, Nat.le_trans (by decide) hfr, Nat.le_trans (by decide) hlo⟩) yc_formed hl.1 (by first | exact Nat.le_of_ble_eq_true rfl | simp [m_cat, m_ci, m_cl, m_cf, m_cd, m_cr]) rfl dX10_turn_16 (fun c4 ws H locs cells slots hH hF => ?_)
    refine lv_iload_n hx hb dX10_turn_19 rfl (lv_at hl 3 rfl) ?_
    refine m_cVI hx hb hml hown hk hH hE.le hz (F := fun q7 => F_X2_turnNumbered q7.1 x2) (C := RX2) (T := TX2) (N := 6) rfl (As := [.int x2]) (rest := []) (fun o => t_X2_turnNumbered l D cy z o x2) hF wd_520 wd_521 wd_44 wd_523 wd_522 yn_X2_turnNumbered ⟨Nat.le_trans (by decide) hfr, Nat.le_trans (by decide) hlo⟩ hl.1 (by first | exact Nat.le_of_ble_eq_true rfl | simp [m_cat, m_ci, m_cl, m_cf, m_cd, m_cr]) rfl dX10_turn_20 (fun c6 ws H locs cells slots hH hF => ?_)
    exact m_iret hx hb hr hlocks hH hE hF rfl dX10_turn_23
  · have hF := bq_t hc2 hF
    refine lv_bipush (v := (-2)) hx hb dX10_turn_10 (by decide) ?_
    refine lv_goto (tgt := 23) hx hb dX10_turn_12 (by decide) ?_
    exact m_iret hx hb hr hlocks hH hE hF rfl dX10_turn_23

def F_X10_inverse (o : Nat) (x1 : Int32) (x2 : Int32) : St (Int32) :=
  bd (dr [9] (some o)) fun q2 => bd (F_X10_curveNumbered q2.1 x1) fun c1 => br (c1 = none) (rt (-2 : Int32)) (bd (dr [3, 4, 6] c1) fun q5 => bd (F_X1_formed q5.1) fun c4 => bd (dr [1] c4) fun q7 => bd (F_X2_nearestTo q7.1 x2) fun c6 => rt c6)
set_option maxHeartbeats 4000000 in
set_option maxRecDepth 100000 in
theorem t_X10_inverse (l : Launch) (D : va_G) (cy : Nat → ClassId) (z : Nat) (o : Nat) (x1 : Int32) (x2 : Int32) : MT l D cy z yX10_inverse cX10_inverse 4 (some .int) 786 23842 (F_X10_inverse o x1 x2) vI [.ref o, .int x1, .int x2] := by
  refine m_enter [(0, .ref o), (1, .int x1), (2, .int x2)] (by decide) (by first | rfl | simp [lv_args, m_cat, m_ci, m_cl, m_cf, m_cd, m_cr]) (by first | exact Nat.le_of_ble_eq_true rfl | simp [lg_sl, m_cat, m_ci, m_cl, m_cf, m_cd, m_cr]) ?_
  intro p e R s m args below meth c ws0 wsf rr cx hE ws H locs cells slots ls hl hH hF
  obtain ⟨hx, hb, hr, hml, hown, hk, hz, hlocks, hnm, hfr, hlo⟩ := id cx
  unfold F_X10_inverse at hF
  refine lv_aload_n hx hb dX10_inverse_0 rfl (lv_at hl 0 rfl) ?_
  refine lv_iload_n hx hb dX10_inverse_1 rfl (lv_at hl 1 rfl) ?_
  refine m_cVR hx hb hml hown hk hH hE.le hz (F := fun q2 => F_X10_curveNumbered q2.1 x1) (C := RX10) (T := TX10) (N := 7) rfl (As := [.int x1]) (rest := []) (fun o => t_X10_curveNumbered l D cy z o x1) hF wd_339 wd_341 wd_33 wd_342 wd_5 yn_X10_curveNumbered ⟨Nat.le_trans (by decide) hfr, Nat.le_trans (by decide) hlo⟩ hl.1 (by first | exact Nat.le_of_ble_eq_true rfl | simp [m_cat, m_ci, m_cl, m_cf, m_cd, m_cr]) rfl dX10_inverse_2 (fun c1 ws H locs cells slots hH hF => ?_)
  refine m_astore_n (lv' := [(3, va_rf c1), (0, .ref o), (1, .int x1), (2, .int x2)]) hx hb dX10_inverse_5 rfl hl (by decide) (by first | rfl | simp [m_cat, m_ci, m_cl, m_cf, m_cd, m_cr]) (fun ls hl => ?_)
  refine m_aload_n hx hb dX10_inverse_6 rfl (lv_at hl 0 rfl) ?_
  refine m_ifnonnull (tgt := 15) hx hb dX10_inverse_7 (by decide) (fun hc2 => ?_) (fun hc2 => ?_)
  · have hF := bq_f hc2 hF
    refine m_aload_n hx hb dX10_inverse_15 rfl (lv_at hl 0 rfl) ?_
    refine m_cUR hx hb hml hown hk hH hE.le hz (x := yX1_formed) (owner := "CurveFoundry$Curve") (y := (fun _ => yX1_formed)) (bytes := (fun _ => cX1_formed)) (maxL := (fun _ => 1)) (fr := (fun _ => 785)) (lo := (fun _ => 23822)) (F := fun q5 => F_X1_formed q5.1) (As := []) (rest := []) (fun o => m_c3 (t_X1_formed l D cy z o) (t_X1_formed l D cy z o) (t_X1_formed l D cy z o)) hF wd_455 wd_457 (va_Decl.of (hk.wd wd_456 args) (hk.wd wd_461 args)) (m_c3 ⟨_, rfl, wd_458, wd_456, wd_39, wd_461, Nat.le_trans (by decide) hfr, Nat.le_trans (by decide) hlo⟩ ⟨_, rfl, wd_459, wd_456, wd_39, wd_461, Nat.le_trans (by decide) hfr, Nat.le_trans (by decide) hlo⟩ ⟨_, rfl, wd_460, wd_456, wd_39, wd_461, Nat.le_trans (by decide) hfr, Nat.le_trans (by decide) hlo⟩) yc_formed hl.1 (by first | exact Nat.le_of_ble_eq_true rfl | simp [m_cat, m_ci, m_cl, m_cf, m_cd, m_cr]) rfl dX10_inverse_16 (fun c4 ws H locs cells slots hH hF => ?_)
    refine lv_iload_n hx hb dX10_inverse_19 rfl (lv_at hl 3 rfl) ?_
    refine m_cVI hx hb hml hown hk hH hE.le hz (F := fun q7 => F_X2_nearestTo q7.1 x2) (C := RX2) (T := TX2) (N := 6) rfl (As := [.int x2]) (rest := []) (fun o => t_X2_nearestTo l D cy z o x2) hF wd_528 wd_529 wd_44 wd_531 wd_530 yn_X2_nearestTo ⟨Nat.le_trans (by decide) hfr, Nat.le_trans (by decide) hlo⟩ hl.1 (by first | exact Nat.le_of_ble_eq_true rfl | simp [m_cat, m_ci, m_cl, m_cf, m_cd, m_cr]) rfl dX10_inverse_20 (fun c6 ws H locs cells slots hH hF => ?_)
    exact m_iret hx hb hr hlocks hH hE hF rfl dX10_inverse_23
  · have hF := bq_t hc2 hF
    refine lv_bipush (v := (-2)) hx hb dX10_inverse_10 (by decide) ?_
    refine lv_goto (tgt := 23) hx hb dX10_inverse_12 (by decide) ?_
    exact m_iret hx hb hr hlocks hH hE hF rfl dX10_inverse_23

def F_X10_residual (o : Nat) (x1 : Int32) (x2 : Int32) (x3 : Int32) : St (Int32) :=
  bd (dr [9] (some o)) fun q2 => bd (F_X10_sensorNumbered q2.1 x1) fun c1 => bd (dr [9] (some o)) fun q4 => bd (F_X10_curveNumbered q4.1 x3) fun c3 => br (c1 = none) (rt (-2000000 : Int32)) (bd (dr [7] c1) fun q7 => bd (F_X8_has q7.1 x2) fun c6 => br (c6 = 0) (rt (-2000000 : Int32)) (br (c3 = none) (rt (-2000000 : Int32)) (bd (dr [7] c1) fun q11 => bd (F_X8_missedBy q11.1 c3 x2) fun c10 => rt c10)))
set_option maxHeartbeats 4000000 in
set_option maxRecDepth 100000 in
theorem t_X10_residual (l : Launch) (D : va_G) (cy : Nat → ClassId) (z : Nat) (o : Nat) (x1 : Int32) (x2 : Int32) (x3 : Int32) : MT l D cy z yX10_residual cX10_residual 6 (some .int) 327 9943 (F_X10_residual o x1 x2 x3) vI [.ref o, .int x1, .int x2, .int x3] := by
  refine m_enter [(0, .ref o), (1, .int x1), (2, .int x2), (3, .int x3)] (by decide) (by first | rfl | simp [lv_args, m_cat, m_ci, m_cl, m_cf, m_cd, m_cr]) (by first | exact Nat.le_of_ble_eq_true rfl | simp [lg_sl, m_cat, m_ci, m_cl, m_cf, m_cd, m_cr]) ?_
  intro p e R s m args below meth c ws0 wsf rr cx hE ws H locs cells slots ls hl hH hF
  obtain ⟨hx, hb, hr, hml, hown, hk, hz, hlocks, hnm, hfr, hlo⟩ := id cx
  unfold F_X10_residual at hF
  refine lv_aload_n hx hb dX10_residual_0 rfl (lv_at hl 0 rfl) ?_
  refine lv_iload_n hx hb dX10_residual_1 rfl (lv_at hl 1 rfl) ?_
  refine m_cVR hx hb hml hown hk hH hE.le hz (F := fun q2 => F_X10_sensorNumbered q2.1 x1) (C := RX10) (T := TX10) (N := 7) rfl (As := [.int x1]) (rest := []) (fun o => t_X10_sensorNumbered l D cy z o x1) hF wd_193 wd_195 wd_33 wd_196 wd_0 yn_X10_sensorNumbered ⟨Nat.le_trans (by decide) hfr, Nat.le_trans (by decide) hlo⟩ hl.1 (by first | exact Nat.le_of_ble_eq_true rfl | simp [m_cat, m_ci, m_cl, m_cf, m_cd, m_cr]) rfl dX10_residual_2 (fun c1 ws H locs cells slots hH hF => ?_)
  refine m_astore (lv' := [(4, va_rf c1), (0, .ref o), (1, .int x1), (2, .int x2), (3, .int x3)]) hx hb dX10_residual_5 hl (by decide) (by first | rfl | simp [m_cat, m_ci, m_cl, m_cf, m_cd, m_cr]) (fun ls hl => ?_)
  refine lv_aload_n hx hb dX10_residual_7 rfl (lv_at hl 1 rfl) ?_
  refine lv_iload_n hx hb dX10_residual_8 rfl (lv_at hl 4 rfl) ?_
  refine m_cVR hx hb hml hown hk hH hE.le hz (F := fun q4 => F_X10_curveNumbered q4.1 x3) (C := RX10) (T := TX10) (N := 7) rfl (As := [.int x3]) (rest := []) (fun o => t_X10_curveNumbered l D cy z o x3) hF wd_339 wd_341 wd_33 wd_342 wd_5 yn_X10_curveNumbered ⟨Nat.le_trans (by decide) hfr, Nat.le_trans (by decide) hlo⟩ hl.1 (by first | exact Nat.le_of_ble_eq_true rfl | simp [m_cat, m_ci, m_cl, m_cf, m_cd, m_cr]) rfl dX10_residual_9 (fun c3 ws H locs cells slots hH hF => ?_)
  refine m_astore (lv' := [(5, va_rf c3), (4, va_rf c1), (0, .ref o), (1, .int x1), (2, .int x2), (3, .int x3)]) hx hb dX10_residual_12 hl (by decide) (by first | rfl | simp [m_cat, m_ci, m_cl, m_cf, m_cd, m_cr]) (fun ls hl => ?_)
  refine m_aload hx hb dX10_residual_14 (lv_at hl 1 rfl) ?_
  refine m_ifnull (tgt := 33) hx hb dX10_residual_16 (by decide) (fun hc4 => ?_) (fun hc4 => ?_)
  · have hF := bq_t hc4 hF
    refine lv_ldc hx hb hown (hk.wd wd_396 args) dX10_residual_33 ?_
    exact m_iret hx hb hr hlocks hH hE hF rfl dX10_residual_35
  · have hF := bq_f hc4 hF
    refine m_aload hx hb dX10_residual_19 (lv_at hl 1 rfl) ?_
    refine lv_iload_n hx hb dX10_residual_21 rfl (lv_at hl 4 rfl) ?_
    refine m_cVI hx hb hml hown hk hH hE.le hz (F := fun q7 => F_X8_has q7.1 x2) (C := RX8) (T := TX8) (N := 4) rfl (As := [.int x2]) (rest := []) (fun o => t_X8_has l D cy z o x2) hF wd_211 wd_212 wd_36 wd_214 wd_213 yn_X8_has ⟨Nat.le_trans (by decide) hfr, Nat.le_trans (by decide) hlo⟩ hl.1 (by first | exact Nat.le_of_ble_eq_true rfl | simp [m_cat, m_ci, m_cl, m_cf, m_cd, m_cr]) rfl dX10_residual_22 (fun c6 ws H locs cells slots hH hF => ?_)
    refine lv_if_eq (tgt := 33) hx hb dX10_residual_25 (by decide) (fun hc7 => ?_) (fun hc7 => ?_)
    · have hF := bq_t hc7 hF
      refine lv_ldc hx hb hown (hk.wd wd_396 args) dX10_residual_33 ?_
      exact m_iret hx hb hr hlocks hH hE hF rfl dX10_residual_35
    · have hF := bq_f hc7 hF
      refine m_aload hx hb dX10_residual_28 (lv_at hl 0 rfl) ?_
      refine m_ifnonnull (tgt := 36) hx hb dX10_residual_30 (by decide) (fun hc8 => ?_) (fun hc8 => ?_)
      · have hF := bq_f hc8 hF
        refine m_aload hx hb dX10_residual_36 (lv_at hl 1 rfl) ?_
        refine m_aload hx hb dX10_residual_38 (lv_at hl 0 rfl) ?_
        refine lv_iload_n hx hb dX10_residual_40 rfl (lv_at hl 4 rfl) ?_
        refine m_cVI hx hb hml hown hk hH hE.le hz (F := fun q11 => F_X8_missedBy q11.1 c3 x2) (C := RX8) (T := TX8) (N := 4) rfl (As := [va_rf c3, .int x2]) (rest := []) (fun o => t_X8_missedBy l D cy z o c3 x2) hF wd_541 wd_542 wd_36 wd_544 wd_543 yn_X8_missedBy ⟨Nat.le_trans (by decide) hfr, Nat.le_trans (by decide) hlo⟩ hl.1 (by first | exact Nat.le_of_ble_eq_true rfl | simp [m_cat, m_ci, m_cl, m_cf, m_cd, m_cr]) rfl dX10_residual_41 (fun c10 ws H locs cells slots hH hF => ?_)
        exact m_iret hx hb hr hlocks hH hE hF rfl dX10_residual_44
      · have hF := bq_t hc8 hF
        refine lv_ldc hx hb hown (hk.wd wd_396 args) dX10_residual_33 ?_
        exact m_iret hx hb hr hlocks hH hE hF rfl dX10_residual_35

def F_X10_worst (o : Nat) (x1 : Int32) (x2 : Int32) : St (Int32) :=
  bd (dr [9] (some o)) fun q2 => bd (F_X10_sensorNumbered q2.1 x1) fun c1 => bd (dr [9] (some o)) fun q4 => bd (F_X10_curveNumbered q4.1 x2) fun c3 => br (c1 = none) (rt (-2 : Int32)) (br (c3 = none) (rt (-2 : Int32)) (bd (dr [7] c1) fun q8 => bd (F_X8_farthestFrom q8.1 c3) fun c7 => rt c7))
set_option maxHeartbeats 4000000 in
set_option maxRecDepth 100000 in
theorem t_X10_worst (l : Launch) (D : va_G) (cy : Nat → ClassId) (z : Nat) (o : Nat) (x1 : Int32) (x2 : Int32) : MT l D cy z yX10_worst cX10_worst 5 (some .int) 328 9968 (F_X10_worst o x1 x2) vI [.ref o, .int x1, .int x2] := by
  refine m_enter [(0, .ref o), (1, .int x1), (2, .int x2)] (by decide) (by first | rfl | simp [lv_args, m_cat, m_ci, m_cl, m_cf, m_cd, m_cr]) (by first | exact Nat.le_of_ble_eq_true rfl | simp [lg_sl, m_cat, m_ci, m_cl, m_cf, m_cd, m_cr]) ?_
  intro p e R s m args below meth c ws0 wsf rr cx hE ws H locs cells slots ls hl hH hF
  obtain ⟨hx, hb, hr, hml, hown, hk, hz, hlocks, hnm, hfr, hlo⟩ := id cx
  unfold F_X10_worst at hF
  refine lv_aload_n hx hb dX10_worst_0 rfl (lv_at hl 0 rfl) ?_
  refine lv_iload_n hx hb dX10_worst_1 rfl (lv_at hl 1 rfl) ?_
  refine m_cVR hx hb hml hown hk hH hE.le hz (F := fun q2 => F_X10_sensorNumbered q2.1 x1) (C := RX10) (T := TX10) (N := 7) rfl (As := [.int x1]) (rest := []) (fun o => t_X10_sensorNumbered l D cy z o x1) hF wd_193 wd_195 wd_33 wd_196 wd_0 yn_X10_sensorNumbered ⟨Nat.le_trans (by decide) hfr, Nat.le_trans (by decide) hlo⟩ hl.1 (by first | exact Nat.le_of_ble_eq_true rfl | simp [m_cat, m_ci, m_cl, m_cf, m_cd, m_cr]) rfl dX10_worst_2 (fun c1 ws H locs cells slots hH hF => ?_)
  refine m_astore_n (lv' := [(3, va_rf c1), (0, .ref o), (1, .int x1), (2, .int x2)]) hx hb dX10_worst_5 rfl hl (by decide) (by first | rfl | simp [m_cat, m_ci, m_cl, m_cf, m_cd, m_cr]) (fun ls hl => ?_)
  refine lv_aload_n hx hb dX10_worst_6 rfl (lv_at hl 1 rfl) ?_
  refine lv_iload_n hx hb dX10_worst_7 rfl (lv_at hl 3 rfl) ?_
  refine m_cVR hx hb hml hown hk hH hE.le hz (F := fun q4 => F_X10_curveNumbered q4.1 x2) (C := RX10) (T := TX10) (N := 7) rfl (As := [.int x2]) (rest := []) (fun o => t_X10_curveNumbered l D cy z o x2) hF wd_339 wd_341 wd_33 wd_342 wd_5 yn_X10_curveNumbered ⟨Nat.le_trans (by decide) hfr, Nat.le_trans (by decide) hlo⟩ hl.1 (by first | exact Nat.le_of_ble_eq_true rfl | simp [m_cat, m_ci, m_cl, m_cf, m_cd, m_cr]) rfl dX10_worst_8 (fun c3 ws H locs cells slots hH hF => ?_)
  refine m_astore (lv' := [(4, va_rf c3), (3, va_rf c1), (0, .ref o), (1, .int x1), (2, .int x2)]) hx hb dX10_worst_11 hl (by decide) (by first | rfl | simp [m_cat, m_ci, m_cl, m_cf, m_cd, m_cr]) (fun ls hl => ?_)
  refine m_aload_n hx hb dX10_worst_13 rfl (lv_at hl 1 rfl) ?_
  refine m_ifnull (tgt := 22) hx hb dX10_worst_14 (by decide) (fun hc4 => ?_) (fun hc4 => ?_)
  · have hF := bq_t hc4 hF
    refine lv_bipush (v := (-2)) hx hb dX10_worst_22 (by decide) ?_
    refine lv_goto (tgt := 33) hx hb dX10_worst_24 (by decide) ?_
    exact m_iret hx hb hr hlocks hH hE hF rfl dX10_worst_33
  · have hF := bq_f hc4 hF
    refine m_aload hx hb dX10_worst_17 (lv_at hl 0 rfl) ?_
    refine m_ifnonnull (tgt := 27) hx hb dX10_worst_19 (by decide) (fun hc5 => ?_) (fun hc5 => ?_)
    · have hF := bq_f hc5 hF
      refine m_aload_n hx hb dX10_worst_27 rfl (lv_at hl 1 rfl) ?_
      refine m_aload hx hb dX10_worst_28 (lv_at hl 0 rfl) ?_
      refine m_cVI hx hb hml hown hk hH hE.le hz (F := fun q8 => F_X8_farthestFrom q8.1 c3) (C := RX8) (T := TX8) (N := 4) rfl (As := [va_rf c3]) (rest := []) (fun o => t_X8_farthestFrom l D cy z o c3) hF wd_550 wd_551 wd_36 wd_553 wd_552 yn_X8_farthestFrom ⟨Nat.le_trans (by decide) hfr, Nat.le_trans (by decide) hlo⟩ hl.1 (by first | exact Nat.le_of_ble_eq_true rfl | simp [m_cat, m_ci, m_cl, m_cf, m_cd, m_cr]) rfl dX10_worst_30 (fun c7 ws H locs cells slots hH hF => ?_)
      exact m_iret hx hb hr hlocks hH hE hF rfl dX10_worst_33
    · have hF := bq_t hc5 hF
      refine lv_bipush (v := (-2)) hx hb dX10_worst_22 (by decide) ?_
      refine lv_goto (tgt := 33) hx hb dX10_worst_24 (by decide) ?_
      exact m_iret hx hb hr hlocks hH hE hF rfl dX10_worst_33

def F_X10_squares (o : Nat) (x1 : Int32) (x2 : Int32) : St (Int64) :=
  bd (dr [9] (some o)) fun q2 => bd (F_X10_sensorNumbered q2.1 x1) fun c1 => bd (dr [9] (some o)) fun q4 => bd (F_X10_curveNumbered q4.1 x2) fun c3 => br (c1 = none) (rt (-2 : Int64)) (br (c3 = none) (rt (-2 : Int64)) (bd (dr [7] c1) fun q8 => bd (F_X8_squaresFrom q8.1 c3) fun c7 => rt c7))
set_option maxHeartbeats 4000000 in
set_option maxRecDepth 100000 in
theorem t_X10_squares (l : Launch) (D : va_G) (cy : Nat → ClassId) (z : Nat) (o : Nat) (x1 : Int32) (x2 : Int32) : MT l D cy z yX10_squares cX10_squares 5 (some .long) 328 9969 (F_X10_squares o x1 x2) vL [.ref o, .int x1, .int x2] := by
  refine m_enter [(0, .ref o), (1, .int x1), (2, .int x2)] (by decide) (by first | rfl | simp [lv_args, m_cat, m_ci, m_cl, m_cf, m_cd, m_cr]) (by first | exact Nat.le_of_ble_eq_true rfl | simp [lg_sl, m_cat, m_ci, m_cl, m_cf, m_cd, m_cr]) ?_
  intro p e R s m args below meth c ws0 wsf rr cx hE ws H locs cells slots ls hl hH hF
  obtain ⟨hx, hb, hr, hml, hown, hk, hz, hlocks, hnm, hfr, hlo⟩ := id cx
  unfold F_X10_squares at hF
  refine lv_aload_n hx hb dX10_squares_0 rfl (lv_at hl 0 rfl) ?_
  refine lv_iload_n hx hb dX10_squares_1 rfl (lv_at hl 1 rfl) ?_
  refine m_cVR hx hb hml hown hk hH hE.le hz (F := fun q2 => F_X10_sensorNumbered q2.1 x1) (C := RX10) (T := TX10) (N := 7) rfl (As := [.int x1]) (rest := []) (fun o => t_X10_sensorNumbered l D cy z o x1) hF wd_193 wd_195 wd_33 wd_196 wd_0 yn_X10_sensorNumbered ⟨Nat.le_trans (by decide) hfr, Nat.le_trans (by decide) hlo⟩ hl.1 (by first | exact Nat.le_of_ble_eq_true rfl | simp [m_cat, m_ci, m_cl, m_cf, m_cd, m_cr]) rfl dX10_squares_2 (fun c1 ws H locs cells slots hH hF => ?_)
  refine m_astore_n (lv' := [(3, va_rf c1), (0, .ref o), (1, .int x1), (2, .int x2)]) hx hb dX10_squares_5 rfl hl (by decide) (by first | rfl | simp [m_cat, m_ci, m_cl, m_cf, m_cd, m_cr]) (fun ls hl => ?_)
  refine lv_aload_n hx hb dX10_squares_6 rfl (lv_at hl 1 rfl) ?_
  refine lv_iload_n hx hb dX10_squares_7 rfl (lv_at hl 3 rfl) ?_
  refine m_cVR hx hb hml hown hk hH hE.le hz (F := fun q4 => F_X10_curveNumbered q4.1 x2) (C := RX10) (T := TX10) (N := 7) rfl (As := [.int x2]) (rest := []) (fun o => t_X10_curveNumbered l D cy z o x2) hF wd_339 wd_341 wd_33 wd_342 wd_5 yn_X10_curveNumbered ⟨Nat.le_trans (by decide) hfr, Nat.le_trans (by decide) hlo⟩ hl.1 (by first | exact Nat.le_of_ble_eq_true rfl | simp [m_cat, m_ci, m_cl, m_cf, m_cd, m_cr]) rfl dX10_squares_8 (fun c3 ws H locs cells slots hH hF => ?_)
  refine m_astore (lv' := [(4, va_rf c3), (3, va_rf c1), (0, .ref o), (1, .int x1), (2, .int x2)]) hx hb dX10_squares_11 hl (by decide) (by first | rfl | simp [m_cat, m_ci, m_cl, m_cf, m_cd, m_cr]) (fun ls hl => ?_)
  refine m_aload_n hx hb dX10_squares_13 rfl (lv_at hl 1 rfl) ?_
  refine m_ifnull (tgt := 22) hx hb dX10_squares_14 (by decide) (fun hc4 => ?_) (fun hc4 => ?_)
  · have hF := bq_t hc4 hF
    refine lv_ldc2 hx hb hown (hk.wd wd_562 args) dX10_squares_22 ?_
    refine lv_goto (tgt := 34) hx hb dX10_squares_25 (by decide) ?_
    exact m_lret hx hb hr hlocks hH hE hF dX10_squares_34
  · have hF := bq_f hc4 hF
    refine m_aload hx hb dX10_squares_17 (lv_at hl 0 rfl) ?_
    refine m_ifnonnull (tgt := 28) hx hb dX10_squares_19 (by decide) (fun hc5 => ?_) (fun hc5 => ?_)
    · have hF := bq_f hc5 hF
      refine m_aload_n hx hb dX10_squares_28 rfl (lv_at hl 1 rfl) ?_
      refine m_aload hx hb dX10_squares_29 (lv_at hl 0 rfl) ?_
      refine m_cVL hx hb hml hown hk hH hE.le hz (F := fun q8 => F_X8_squaresFrom q8.1 c3) (C := RX8) (T := TX8) (N := 4) rfl (As := [va_rf c3]) (rest := []) (fun o => t_X8_squaresFrom l D cy z o c3) hF wd_563 wd_564 wd_36 wd_566 wd_565 yn_X8_squaresFrom ⟨Nat.le_trans (by decide) hfr, Nat.le_trans (by decide) hlo⟩ hl.1 (by first | exact Nat.le_of_ble_eq_true rfl | simp [m_cat, m_ci, m_cl, m_cf, m_cd, m_cr]) rfl dX10_squares_31 (fun c7 ws H locs cells slots hH hF => ?_)
      exact m_lret hx hb hr hlocks hH hE hF dX10_squares_34
    · have hF := bq_t hc5 hF
      refine lv_ldc2 hx hb hown (hk.wd wd_562 args) dX10_squares_22 ?_
      refine lv_goto (tgt := 34) hx hb dX10_squares_25 (by decide) ?_
      exact m_lret hx hb hr hlocks hH hE hF dX10_squares_34

def F_X10_drift (o : Nat) (x1 : Int32) (x2 : Int32) : St (Int32) :=
  bd (dr [9] (some o)) fun q2 => bd (F_X10_sensorNumbered q2.1 x1) fun c1 => bd (dr [9] (some o)) fun q4 => bd (F_X10_curveNumbered q4.1 x2) fun c3 => br (c1 = none) (rt (-2000000 : Int32)) (br (c3 = none) (rt (-2000000 : Int32)) (bd (gI [7] 3 c1) fun v7 => br (v7 = 0) (rt (-2000000 : Int32)) (bd (dr [7] c1) fun q10 => bd (F_X8_meanFrom q10.1 c3) fun c9 => rt c9)))
set_option maxHeartbeats 4000000 in
set_option maxRecDepth 100000 in
theorem t_X10_drift (l : Launch) (D : va_G) (cy : Nat → ClassId) (z : Nat) (o : Nat) (x1 : Int32) (x2 : Int32) : MT l D cy z yX10_drift cX10_drift 5 (some .int) 328 9969 (F_X10_drift o x1 x2) vI [.ref o, .int x1, .int x2] := by
  refine m_enter [(0, .ref o), (1, .int x1), (2, .int x2)] (by decide) (by first | rfl | simp [lv_args, m_cat, m_ci, m_cl, m_cf, m_cd, m_cr]) (by first | exact Nat.le_of_ble_eq_true rfl | simp [lg_sl, m_cat, m_ci, m_cl, m_cf, m_cd, m_cr]) ?_
  intro p e R s m args below meth c ws0 wsf rr cx hE ws H locs cells slots ls hl hH hF
  obtain ⟨hx, hb, hr, hml, hown, hk, hz, hlocks, hnm, hfr, hlo⟩ := id cx
  unfold F_X10_drift at hF
  refine lv_aload_n hx hb dX10_drift_0 rfl (lv_at hl 0 rfl) ?_
  refine lv_iload_n hx hb dX10_drift_1 rfl (lv_at hl 1 rfl) ?_
  refine m_cVR hx hb hml hown hk hH hE.le hz (F := fun q2 => F_X10_sensorNumbered q2.1 x1) (C := RX10) (T := TX10) (N := 7) rfl (As := [.int x1]) (rest := []) (fun o => t_X10_sensorNumbered l D cy z o x1) hF wd_193 wd_195 wd_33 wd_196 wd_0 yn_X10_sensorNumbered ⟨Nat.le_trans (by decide) hfr, Nat.le_trans (by decide) hlo⟩ hl.1 (by first | exact Nat.le_of_ble_eq_true rfl | simp [m_cat, m_ci, m_cl, m_cf, m_cd, m_cr]) rfl dX10_drift_2 (fun c1 ws H locs cells slots hH hF => ?_)
  refine m_astore_n (lv' := [(3, va_rf c1), (0, .ref o), (1, .int x1), (2, .int x2)]) hx hb dX10_drift_5 rfl hl (by decide) (by first | rfl | simp [m_cat, m_ci, m_cl, m_cf, m_cd, m_cr]) (fun ls hl => ?_)
  refine lv_aload_n hx hb dX10_drift_6 rfl (lv_at hl 1 rfl) ?_
  refine lv_iload_n hx hb dX10_drift_7 rfl (lv_at hl 3 rfl) ?_
  refine m_cVR hx hb hml hown hk hH hE.le hz (F := fun q4 => F_X10_curveNumbered q4.1 x2) (C := RX10) (T := TX10) (N := 7) rfl (As := [.int x2]) (rest := []) (fun o => t_X10_curveNumbered l D cy z o x2) hF wd_339 wd_341 wd_33 wd_342 wd_5 yn_X10_curveNumbered ⟨Nat.le_trans (by decide) hfr, Nat.le_trans (by decide) hlo⟩ hl.1 (by first | exact Nat.le_of_ble_eq_true rfl | simp [m_cat, m_ci, m_cl, m_cf, m_cd, m_cr]) rfl dX10_drift_8 (fun c3 ws H locs cells slots hH hF => ?_)
  refine m_astore (lv' := [(4, va_rf c3), (3, va_rf c1), (0, .ref o), (1, .int x1), (2, .int x2)]) hx hb dX10_drift_11 hl (by decide) (by first | rfl | simp [m_cat, m_ci, m_cl, m_cf, m_cd, m_cr]) (fun ls hl => ?_)
  refine m_aload_n hx hb dX10_drift_13 rfl (lv_at hl 1 rfl) ?_
  refine m_ifnull (tgt := 29) hx hb dX10_drift_14 (by decide) (fun hc4 => ?_) (fun hc4 => ?_)
  · have hF := bq_t hc4 hF
    refine lv_ldc hx hb hown (hk.wd wd_396 args) dX10_drift_29 ?_
    exact m_iret hx hb hr hlocks hH hE hF rfl dX10_drift_31
  · have hF := bq_f hc4 hF
    refine m_aload hx hb dX10_drift_17 (lv_at hl 0 rfl) ?_
    refine m_ifnull (tgt := 29) hx hb dX10_drift_19 (by decide) (fun hc5 => ?_) (fun hc5 => ?_)
    · have hF := bq_t hc5 hF
      refine lv_ldc hx hb hown (hk.wd wd_396 args) dX10_drift_29 ?_
      exact m_iret hx hb hr hlocks hH hE hF rfl dX10_drift_31
    · have hF := bq_f hc5 hF
      refine m_aload_n hx hb dX10_drift_22 rfl (lv_at hl 1 rfl) ?_
      refine m_gI hx hb hown hk hH hF fk_RX8_size lk_RX10_65 dX10_drift_23 (fun v7 hF => ?_)
      refine lv_if_ne (tgt := 32) hx hb dX10_drift_26 (by decide) (fun hc7 => ?_) (fun hc7 => ?_)
      · have hF := bq_f hc7 hF
        refine m_aload_n hx hb dX10_drift_32 rfl (lv_at hl 1 rfl) ?_
        refine m_aload hx hb dX10_drift_33 (lv_at hl 0 rfl) ?_
        refine m_cVI hx hb hml hown hk hH hE.le hz (F := fun q10 => F_X8_meanFrom q10.1 c3) (C := RX8) (T := TX8) (N := 4) rfl (As := [va_rf c3]) (rest := []) (fun o => t_X8_meanFrom l D cy z o c3) hF wd_571 wd_572 wd_36 wd_574 wd_573 yn_X8_meanFrom ⟨Nat.le_trans (by decide) hfr, Nat.le_trans (by decide) hlo⟩ hl.1 (by first | exact Nat.le_of_ble_eq_true rfl | simp [m_cat, m_ci, m_cl, m_cf, m_cd, m_cr]) rfl dX10_drift_35 (fun c9 ws H locs cells slots hH hF => ?_)
        exact m_iret hx hb hr hlocks hH hE hF rfl dX10_drift_38
      · have hF := bq_t hc7 hF
        refine lv_ldc hx hb hown (hk.wd wd_396 args) dX10_drift_29 ?_
        exact m_iret hx hb hr hlocks hH hE hF rfl dX10_drift_31

def F_X10_probeNumbered (o : Nat) (x1 : Int32) : St (Option Nat) :=
  br (x1 < 0) (rt none) (br (x1 < (4 : Int32)) (bd (gR [9] 2 (some o)) fun v3 => bd (aR 10 v3 x1) fun v4 => rt v4) (rt none))
set_option maxHeartbeats 4000000 in
set_option maxRecDepth 100000 in
theorem t_X10_probeNumbered (l : Launch) (D : va_G) (cy : Nat → ClassId) (z : Nat) (o : Nat) (x1 : Int32) : MT l D cy z yX10_probeNumbered cX10_probeNumbered 2 (some (.object "CurveFoundry$Probe")) 0 0 (F_X10_probeNumbered o x1) vR [.ref o, .int x1] := by
  refine m_enter [(0, .ref o), (1, .int x1)] (by decide) (by first | rfl | simp [lv_args, m_cat, m_ci, m_cl, m_cf, m_cd, m_cr]) (by first | exact Nat.le_of_ble_eq_true rfl | simp [lg_sl, m_cat, m_ci, m_cl, m_cf, m_cd, m_cr]) ?_
  intro p e R s m args below meth c ws0 wsf rr cx hE ws H locs cells slots ls hl hH hF
  obtain ⟨hx, hb, hr, hml, hown, hk, hz, hlocks, hnm, hfr, hlo⟩ := id cx
  unfold F_X10_probeNumbered at hF
  refine lv_iload_n hx hb dX10_probeNumbered_0 rfl (lv_at hl 1 rfl) ?_
  refine lv_if_lt (tgt := 9) hx hb dX10_probeNumbered_1 (by decide) (fun hc0 => ?_) (fun hc0 => ?_)
  · have hF := bq_t hc0 hF
    refine lv_null hx hb dX10_probeNumbered_9 ?_
    refine lv_goto (tgt := 19) hx hb dX10_probeNumbered_10 (by decide) ?_
    exact m_aret hx hb hr (Or.inl ⟨_, rfl⟩) hlocks hH hE hF dX10_probeNumbered_19
  · have hF := bq_f hc0 hF
    refine lv_iload_n hx hb dX10_probeNumbered_4 rfl (lv_at hl 1 rfl) ?_
    refine lv_iconst (v := (4)) hx hb dX10_probeNumbered_5 (by decide) ?_
    refine lv_icmp_lt (tgt := 13) hx hb dX10_probeNumbered_6 (by decide) (fun hc1 => ?_) (fun hc1 => ?_)
    · have hF := bq_t hc1 hF
      refine lv_aload_n hx hb dX10_probeNumbered_13 rfl (lv_at hl 0 rfl) ?_
      refine m_gR hx hb hown hk hH hF fk_RX10_probes lk_RX10_23 dX10_probeNumbered_14 (fun v3 hF => ?_)
      refine lv_iload_n hx hb dX10_probeNumbered_17 rfl (lv_at hl 1 rfl) ?_
      refine m_aR (t := 10) hx hb hk hH ⟨by decide, rfl⟩ hF dX10_probeNumbered_18 (fun v4 hF => ?_)
      exact m_aret hx hb hr (Or.inl ⟨_, rfl⟩) hlocks hH hE hF dX10_probeNumbered_19
    · have hF := bq_f hc1 hF
      refine lv_null hx hb dX10_probeNumbered_9 ?_
      refine lv_goto (tgt := 19) hx hb dX10_probeNumbered_10 (by decide) ?_
      exact m_aret hx hb hr (Or.inl ⟨_, rfl⟩) hlocks hH hE hF dX10_probeNumbered_19
