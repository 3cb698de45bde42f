def F_X10_probe (o : Nat) (x1 : Int32) (x2 : Int32) (x3 : Int32) (x4 : Int32) : St (Int32) :=
  bd (dr [9] (some o)) fun q2 => bd (F_X10_probeNumbered q2.1 x1) fun c1 => bd (dr [9] (some o)) fun q4 => bd (F_X10_curveNumbered q4.1 x2) fun c3 => br (c1 = none) (rt (-2 : Int32)) (br (c3 = none) (rt (-2 : Int32)) (br (x3 < 0) (rt (-2 : Int32)) (br (x3 ≤ (2 : Int32)) (br (x4 < (1 : Int32)) (rt (-2 : Int32)) (br (x4 ≤ (9 : Int32)) (bd (dr [5] c1) fun q12 => bd (F_X6_begin q12.1 c3 x3 x4) fun c11 => rt (1 : Int32)) (rt (-2 : Int32)))) (rt (-2 : Int32)))))
set_option maxHeartbeats 4000000 in
set_option maxRecDepth 100000 in
theorem t_X10_probe (l : Launch) (D : va_G) (cy : Nat → ClassId) (z : Nat) (o : Nat) (x1 : Int32) (x2 : Int32) (x3 : Int32) (x4 : Int32) : MT l D cy z yX10_probe cX10_probe 7 (some .int) 1 40 (F_X10_probe o x1 x2 x3 x4) vI [.ref o, .int x1, .int x2, .int x3, .int x4] := by
  refine m_enter [(0, .ref o), (1, .int x1), (2, .int x2), (3, .int x3), (4, .int x4)] (by decide) (by first | rfl | simp [lv_args, m_cat, m_ci, m_cl, m_cf, m_cd, m_cr]) (by first | exact Nat.le_of_ble_eq_true rfl | simp [lg_sl, m_cat, m_ci, m_cl, m_cf, m_cd, m_cr]) ?_
  intro p e R s m args below meth c ws0 wsf rr cx hE ws H locs cells slots ls hl hH hF
  obtain ⟨hx, hb, hr, hml, hown, hk, hz, hlocks, hnm, hfr, hlo⟩ := id cx
  unfold F_X10_probe at hF
  refine lv_aload_n hx hb dX10_probe_0 rfl (lv_at hl 0 rfl) ?_
  refine lv_iload_n hx hb dX10_probe_1 rfl (lv_at hl 1 rfl) ?_
  refine m_cVR hx hb hml hown hk hH hE.le hz (F := fun q2 => F_X10_probeNumbered q2.1 x1) (C := RX10) (T := TX10) (N := 7) rfl (As := [.int x1]) (rest := []) (fun o => t_X10_probeNumbered l D cy z o x1) hF wd_579 wd_581 wd_33 wd_582 wd_8 yn_X10_probeNumbered ⟨Nat.le_trans (by decide) hfr, Nat.le_trans (by decide) hlo⟩ hl.1 (by first | exact Nat.le_of_ble_eq_true rfl | simp [m_cat, m_ci, m_cl, m_cf, m_cd, m_cr]) rfl dX10_probe_2 (fun c1 ws H locs cells slots hH hF => ?_)
  refine m_astore (lv' := [(5, va_rf c1), (0, .ref o), (1, .int x1), (2, .int x2), (3, .int x3), (4, .int x4)]) hx hb dX10_probe_5 hl (by decide) (by first | rfl | simp [m_cat, m_ci, m_cl, m_cf, m_cd, m_cr]) (fun ls hl => ?_)
  refine lv_aload_n hx hb dX10_probe_7 rfl (lv_at hl 1 rfl) ?_
  refine lv_iload_n hx hb dX10_probe_8 rfl (lv_at hl 3 rfl) ?_
  refine m_cVR hx hb hml hown hk hH hE.le hz (F := fun q4 => F_X10_curveNumbered q4.1 x2) (C := RX10) (T := TX10) (N := 7) rfl (As := [.int x2]) (rest := []) (fun o => t_X10_curveNumbered l D cy z o x2) hF wd_339 wd_341 wd_33 wd_342 wd_5 yn_X10_curveNumbered ⟨Nat.le_trans (by decide) hfr, Nat.le_trans (by decide) hlo⟩ hl.1 (by first | exact Nat.le_of_ble_eq_true rfl | simp [m_cat, m_ci, m_cl, m_cf, m_cd, m_cr]) rfl dX10_probe_9 (fun c3 ws H locs cells slots hH hF => ?_)
  refine m_astore (lv' := [(6, va_rf c3), (5, va_rf c1), (0, .ref o), (1, .int x1), (2, .int x2), (3, .int x3), (4, .int x4)]) hx hb dX10_probe_12 hl (by decide) (by first | rfl | simp [m_cat, m_ci, m_cl, m_cf, m_cd, m_cr]) (fun ls hl => ?_)
  refine m_aload hx hb dX10_probe_14 (lv_at hl 1 rfl) ?_
  refine m_ifnull (tgt := 33) hx hb dX10_probe_16 (by decide) (fun hc4 => ?_) (fun hc4 => ?_)
  · have hF := bq_t hc4 hF
    refine lv_bipush (v := (-2)) hx hb dX10_probe_33 (by decide) ?_
    exact m_iret hx hb hr hlocks hH hE hF rfl dX10_probe_35
  · have hF := bq_f hc4 hF
    refine m_aload hx hb dX10_probe_19 (lv_at hl 0 rfl) ?_
    refine m_ifnull (tgt := 33) hx hb dX10_probe_21 (by decide) (fun hc5 => ?_) (fun hc5 => ?_)
    · have hF := bq_t hc5 hF
      refine lv_bipush (v := (-2)) hx hb dX10_probe_33 (by decide) ?_
      exact m_iret hx hb hr hlocks hH hE hF rfl dX10_probe_35
    · have hF := bq_f hc5 hF
      refine lv_iload_n hx hb dX10_probe_24 rfl (lv_at hl 5 rfl) ?_
      refine lv_if_lt (tgt := 33) hx hb dX10_probe_25 (by decide) (fun hc6 => ?_) (fun hc6 => ?_)
      · have hF := bq_t hc6 hF
        refine lv_bipush (v := (-2)) hx hb dX10_probe_33 (by decide) ?_
        exact m_iret hx hb hr hlocks hH hE hF rfl dX10_probe_35
      · have hF := bq_f hc6 hF
        refine lv_iload_n hx hb dX10_probe_28 rfl (lv_at hl 5 rfl) ?_
        refine lv_iconst (v := (2)) hx hb dX10_probe_29 (by decide) ?_
        refine lv_icmp_le (tgt := 36) hx hb dX10_probe_30 (by decide) (fun hc7 => ?_) (fun hc7 => ?_)
        · have hF := bq_t hc7 hF
          refine lv_iload hx hb dX10_probe_36 (lv_at hl 6 rfl) ?_
          refine lv_iconst (v := (1)) hx hb dX10_probe_38 (by decide) ?_
          refine lv_icmp_lt (tgt := 49) hx hb dX10_probe_39 (by decide) (fun hc8 => ?_) (fun hc8 => ?_)
          · have hF := bq_t hc8 hF
            refine lv_bipush (v := (-2)) hx hb dX10_probe_49 (by decide) ?_
            exact m_iret hx hb hr hlocks hH hE hF rfl dX10_probe_51
          · have hF := bq_f hc8 hF
            refine lv_iload hx hb dX10_probe_42 (lv_at hl 6 rfl) ?_
            refine lv_bipush (v := (9)) hx hb dX10_probe_44 (by decide) ?_
            refine lv_icmp_le (tgt := 52) hx hb dX10_probe_46 (by decide) (fun hc9 => ?_) (fun hc9 => ?_)
            · have hF := bq_t hc9 hF
              refine m_aload hx hb dX10_probe_52 (lv_at hl 1 rfl) ?_
              refine m_aload hx hb dX10_probe_54 (lv_at hl 0 rfl) ?_
              refine lv_iload_n hx hb dX10_probe_56 rfl (lv_at hl 5 rfl) ?_
              refine lv_iload hx hb dX10_probe_57 (lv_at hl 6 rfl) ?_
              refine m_cVU hx hb hml hown hk hH hE.le hz (F := fun q12 => F_X6_begin q12.1 c3 x3 x4) (C := RX6) (T := TX6) (N := 7) rfl (As := [va_rf c3, .int x3, .int x4]) (rest := []) (fun o => t_X6_begin l D cy z o c3 x3 x4) hF wd_583 wd_584 wd_37 wd_586 wd_585 yn_X6_begin ⟨Nat.le_trans (by decide) hfr, Nat.le_trans (by decide) hlo⟩ hl.1 (by first | exact Nat.le_of_ble_eq_true rfl | simp [m_cat, m_ci, m_cl, m_cf, m_cd, m_cr]) rfl dX10_probe_59 (fun c11 ws H locs cells slots hH hF => ?_)
              refine lv_iconst (v := (1)) hx hb dX10_probe_62 (by decide) ?_
              exact m_iret hx hb hr hlocks hH hE hF rfl dX10_probe_63
            · have hF := bq_f hc9 hF
              refine lv_bipush (v := (-2)) hx hb dX10_probe_49 (by decide) ?_
              exact m_iret hx hb hr hlocks hH hE hF rfl dX10_probe_51
        · have hF := bq_f hc7 hF
          refine lv_bipush (v := (-2)) hx hb dX10_probe_33 (by decide) ?_
          exact m_iret hx hb hr hlocks hH hE hF rfl dX10_probe_35

def F_X10_feed (o : Nat) (x1 : Int32) (x2 : Int32) : St (Int32) :=
  bd (dr [9] (some o)) fun q2 => bd (F_X10_probeNumbered q2.1 x1) fun c1 => br (c1 = none) (rt (-2 : Int32)) (bd (F_X10_isCount x2) fun c4 => br (c4 = 0) (rt (-2 : Int32)) (bd (dr [5] c1) fun q7 => bd (F_X6_take q7.1 x2) fun c6 => rt c6))
set_option maxHeartbeats 4000000 in
set_option maxRecDepth 100000 in
theorem t_X10_feed (l : Launch) (D : va_G) (cy : Nat → ClassId) (z : Nat) (o : Nat) (x1 : Int32) (x2 : Int32) : MT l D cy z yX10_feed cX10_feed 4 (some .int) 5 134 (F_X10_feed o x1 x2) vI [.ref o, .int x1, .int x2] := by
  refine m_enter [(0, .ref o), (1, .int x1), (2, .int x2)] (by decide) (by first | rfl | simp [lv_args, m_cat, m_ci, m_cl, m_cf, m_cd, m_cr]) (by first | exact Nat.le_of_ble_eq_true rfl | simp [lg_sl, m_cat, m_ci, m_cl, m_cf, m_cd, m_cr]) ?_
  intro p e R s m args below meth c ws0 wsf rr cx hE ws H locs cells slots ls hl hH hF
  obtain ⟨hx, hb, hr, hml, hown, hk, hz, hlocks, hnm, hfr, hlo⟩ := id cx
  unfold F_X10_feed at hF
  refine lv_aload_n hx hb dX10_feed_0 rfl (lv_at hl 0 rfl) ?_
  refine lv_iload_n hx hb dX10_feed_1 rfl (lv_at hl 1 rfl) ?_
  refine m_cVR hx hb hml hown hk hH hE.le hz (F := fun q2 => F_X10_probeNumbered q2.1 x1) (C := RX10) (T := TX10) (N := 7) rfl (As := [.int x1]) (rest := []) (fun o => t_X10_probeNumbered l D cy z o x1) hF wd_579 wd_581 wd_33 wd_582 wd_8 yn_X10_probeNumbered ⟨Nat.le_trans (by decide) hfr, Nat.le_trans (by decide) hlo⟩ hl.1 (by first | exact Nat.le_of_ble_eq_true rfl | simp [m_cat, m_ci, m_cl, m_cf, m_cd, m_cr]) rfl dX10_feed_2 (fun c1 ws H locs cells slots hH hF => ?_)
  refine m_astore_n (lv' := [(3, va_rf c1), (0, .ref o), (1, .int x1), (2, .int x2)]) hx hb dX10_feed_5 rfl hl (by decide) (by first | rfl | simp [m_cat, m_ci, m_cl, m_cf, m_cd, m_cr]) (fun ls hl => ?_)
  refine m_aload_n hx hb dX10_feed_6 rfl (lv_at hl 0 rfl) ?_
  refine m_ifnull (tgt := 17) hx hb dX10_feed_7 (by decide) (fun hc2 => ?_) (fun hc2 => ?_)
  · have hF := bq_t hc2 hF
    refine lv_bipush (v := (-2)) hx hb dX10_feed_17 (by decide) ?_
    refine lv_goto (tgt := 27) hx hb dX10_feed_19 (by decide) ?_
    exact m_iret hx hb hr hlocks hH hE hF rfl dX10_feed_27
  · have hF := bq_f hc2 hF
    refine lv_iload_n hx hb dX10_feed_10 rfl (lv_at hl 3 rfl) ?_
    refine m_cSI hx hb hml hown hk hH hE.le hz (As := [.int x2]) (rest := []) (t_X10_isCount l D cy z x2) hF wd_197 wd_198 wd_33 wd_199 yn_X10_isCount ⟨Nat.le_trans (by decide) hfr, Nat.le_trans (by decide) hlo⟩ hl.1 (by first | exact Nat.le_of_ble_eq_true rfl | simp [m_cat, m_ci, m_cl, m_cf, m_cd, m_cr]) rfl dX10_feed_11 (fun c4 ws H locs cells slots hH hF => ?_)
    refine lv_if_ne (tgt := 22) hx hb dX10_feed_14 (by decide) (fun hc4 => ?_) (fun hc4 => ?_)
    · have hF := bq_f hc4 hF
      refine m_aload_n hx hb dX10_feed_22 rfl (lv_at hl 0 rfl) ?_
      refine lv_iload_n hx hb dX10_feed_23 rfl (lv_at hl 3 rfl) ?_
      refine m_cVI hx hb hml hown hk hH hE.le hz (F := fun q7 => F_X6_take q7.1 x2) (C := RX6) (T := TX6) (N := 7) rfl (As := [.int x2]) (rest := []) (fun o => t_X6_take l D cy z o x2) hF wd_591 wd_592 wd_37 wd_594 wd_593 yn_X6_take ⟨Nat.le_trans (by decide) hfr, Nat.le_trans (by decide) hlo⟩ hl.1 (by first | exact Nat.le_of_ble_eq_true rfl | simp [m_cat, m_ci, m_cl, m_cf, m_cd, m_cr]) rfl dX10_feed_24 (fun c6 ws H locs cells slots hH hF => ?_)
      exact m_iret hx hb hr hlocks hH hE hF rfl dX10_feed_27
    · have hF := bq_t hc4 hF
      refine lv_bipush (v := (-2)) hx hb dX10_feed_17 (by decide) ?_
      refine lv_goto (tgt := 27) hx hb dX10_feed_19 (by decide) ?_
      exact m_iret hx hb hr hlocks hH hE hF rfl dX10_feed_27

def F_X10_probed (o : Nat) (x1 : Int32) : St (Int32) :=
  bd (dr [9] (some o)) fun q2 => bd (F_X10_probeNumbered q2.1 x1) fun c1 => br (c1 = none) (rt (-2000000 : Int32)) (bd (dr [5] c1) fun q5 => bd (F_X6_told q5.1) fun c4 => rt c4)
set_option maxHeartbeats 4000000 in
set_option maxRecDepth 100000 in
theorem t_X10_probed (l : Launch) (D : va_G) (cy : Nat → ClassId) (z : Nat) (o : Nat) (x1 : Int32) : MT l D cy z yX10_probed cX10_probed 3 (some .int) 327 9941 (F_X10_probed o x1) vI [.ref o, .int x1] := by
  refine m_enter [(0, .ref o), (1, .int x1)] (by decide) (by first | rfl | simp [lv_args, m_cat, m_ci, m_cl, m_cf, m_cd, m_cr]) (by first | exact Nat.le_of_ble_eq_true rfl | simp [lg_sl, m_cat, m_ci, m_cl, m_cf, m_cd, m_cr]) ?_
  intro p e R s m args below meth c ws0 wsf rr cx hE ws H locs cells slots ls hl hH hF
  obtain ⟨hx, hb, hr, hml, hown, hk, hz, hlocks, hnm, hfr, hlo⟩ := id cx
  unfold F_X10_probed at hF
  refine lv_aload_n hx hb dX10_probed_0 rfl (lv_at hl 0 rfl) ?_
  refine lv_iload_n hx hb dX10_probed_1 rfl (lv_at hl 1 rfl) ?_
  refine m_cVR hx hb hml hown hk hH hE.le hz (F := fun q2 => F_X10_probeNumbered q2.1 x1) (C := RX10) (T := TX10) (N := 7) rfl (As := [.int x1]) (rest := []) (fun o => t_X10_probeNumbered l D cy z o x1) hF wd_579 wd_581 wd_33 wd_582 wd_8 yn_X10_probeNumbered ⟨Nat.le_trans (by decide) hfr, Nat.le_trans (by decide) hlo⟩ hl.1 (by first | exact Nat.le_of_ble_eq_true rfl | simp [m_cat, m_ci, m_cl, m_cf, m_cd, m_cr]) rfl dX10_probed_2 (fun c1 ws H locs cells slots hH hF => ?_)
  refine m_astore_n (lv' := [(2, va_rf c1), (0, .ref o), (1, .int x1)]) hx hb dX10_probed_5 rfl hl (by decide) (by first | rfl | simp [m_cat, m_ci, m_cl, m_cf, m_cd, m_cr]) (fun ls hl => ?_)
  refine m_aload_n hx hb dX10_probed_6 rfl (lv_at hl 0 rfl) ?_
  refine m_ifnonnull (tgt := 15) hx hb dX10_probed_7 (by decide) (fun hc2 => ?_) (fun hc2 => ?_)
  · have hF := bq_f hc2 hF
    refine m_aload_n hx hb dX10_probed_15 rfl (lv_at hl 0 rfl) ?_
    refine m_cVI hx hb hml hown hk hH hE.le hz (F := fun q5 => F_X6_told q5.1) (C := RX6) (T := TX6) (N := 7) rfl (As := []) (rest := []) (fun o => t_X6_told l D cy z o) hF wd_612 wd_613 wd_37 wd_615 wd_614 yn_X6_told ⟨Nat.le_trans (by decide) hfr, Nat.le_trans (by decide) hlo⟩ hl.1 (by first | exact Nat.le_of_ble_eq_true rfl | simp [m_cat, m_ci, m_cl, m_cf, m_cd, m_cr]) rfl dX10_probed_16 (fun c4 ws H locs cells slots hH hF => ?_)
    exact m_iret hx hb hr hlocks hH hE hF rfl dX10_probed_19
  · have hF := bq_t hc2 hF
    refine lv_ldc hx hb hown (hk.wd wd_396 args) dX10_probed_10 ?_
    refine lv_goto (tgt := 19) hx hb dX10_probed_12 (by decide) ?_
    exact m_iret hx hb hr hlocks hH hE hF rfl dX10_probed_19

def j_X10_table_65 (x0 : Nat) (x1 : Int32) (x3 : Int32) (x4 : Option Nat) : St (Int32) :=
  bd (gR [9] 3 (some x0)) fun v10 => bd (aR 11 v10 x1) fun v11 => bd (dr [8] v11) fun q13 => bd (F_X9_become q13.1 x4 x3) fun c12 => rt c12
def j_X10_table_43 (x0 : Nat) (x1 : Int32) (x3 : Int32) (x4 : Option Nat) : St (Int32) :=
  bd (gR [9] 3 (some x0)) fun v7 => bd (aR 11 v7 x1) fun v8 => br (v8 = none) (bd (gR [9] 3 (some x0)) fun v14 => bd (mk 6 (.inr (8, [.null, .null, .int 0, .int 0, .double 0, .int 0]))) fun a15 => bd (F_X9_init a15) fun c16 => bd (dr [8] (some a15)) fun _ => bd (sR 11 v14 x1 (some a15)) fun _ => j_X10_table_65 x0 x1 x3 x4) (j_X10_table_65 x0 x1 x3 x4)
def F_X10_table (o : Nat) (x1 : Int32) (x2 : Int32) (x3 : Int32) : St (Int32) :=
  bd (dr [9] (some o)) fun q2 => bd (F_X10_curveNumbered q2.1 x2) fun c1 => br (x1 < 0) (rt (-2 : Int32)) (br ((4 : Int32) ≤ x1) (rt (-2 : Int32)) (br (c1 = none) (rt (-2 : Int32)) (br (x3 = (16 : Int32)) (j_X10_table_43 o x1 x3 c1) (br (x3 = (64 : Int32)) (j_X10_table_43 o x1 x3 c1) (br (x3 = (256 : Int32)) (j_X10_table_43 o x1 x3 c1) (rt (-2 : Int32)))))))
set_option maxHeartbeats 4000000 in
set_option maxRecDepth 100000 in
theorem w_X10_table_65 {l : Launch} {D : va_G} {cy : Nat → ClassId} {z : Nat} {p : Program} {e : Env} {R : Room} {s : State} {m : MethodId} {args : Array Value} {below : List Frame} {meth : Method} {c : Code} {ws0 wsf : WS} {rr : Int32} (cx : Cx D cy z RX10 cX10_table 5 (some .int) 327 9944 "table" p R s m meth c) (hE : AC ws0 wsf R.cells R.slots) (x0 : Nat) (x1 : Int32) (x3 : Int32) (x4 : Option Nat) : At_ l D cy z p e R s m args below meth c ws0 wsf vI rr 5 65 [(0, .ref x0), (1, .int x1), (3, .int x3), (4, va_rf x4)] [] (j_X10_table_65 x0 x1 x3 x4) := by
  intro ws H locs cells slots ls hl hH hF
  obtain ⟨hx, hb, hr, hml, hown, hk, hz, hlocks, hnm, hfr, hlo⟩ := id cx
  unfold j_X10_table_65 at hF
  refine lv_aload_n hx hb dX10_table_65 rfl (lv_at hl 0 rfl) ?_
  refine m_gR hx hb hown hk hH hF fk_RX10_tables lk_RX10_29 dX10_table_66 (fun v10 hF => ?_)
  refine lv_iload_n hx hb dX10_table_69 rfl (lv_at hl 1 rfl) ?_
  refine m_aR (t := 11) hx hb hk hH ⟨by decide, rfl⟩ hF dX10_table_70 (fun v11 hF => ?_)
  refine m_aload hx hb dX10_table_71 (lv_at hl 3 rfl) ?_
  refine lv_iload_n hx hb dX10_table_73 rfl (lv_at hl 2 rfl) ?_
  refine m_cVI hx hb hml hown hk hH hE.le hz (F := fun q13 => F_X9_become q13.1 x4 x3) (C := RX9) (T := TX9) (N := 6) rfl (As := [va_rf x4, .int x3]) (rest := []) (fun o => t_X9_become l D cy z o x4 x3) hF wd_649 wd_650 wd_45 wd_652 wd_651 yn_X9_become ⟨Nat.le_trans (by decide) hfr, Nat.le_trans (by decide) hlo⟩ hl.1 (by first | exact Nat.le_of_ble_eq_true rfl | simp [m_cat, m_ci, m_cl, m_cf, m_cd, m_cr]) rfl dX10_table_74 (fun c12 ws H locs cells slots hH hF => ?_)
  exact m_iret hx hb hr hlocks hH hE hF rfl dX10_table_77
set_option maxHeartbeats 4000000 in
set_option maxRecDepth 100000 in
theorem w_X10_table_43 {l : Launch} {D : va_G} {cy : Nat → ClassId} {z : Nat} {p : Program} {e : Env} {R : Room} {s : State} {m : MethodId} {args : Array Value} {below : List Frame} {meth : Method} {c : Code} {ws0 wsf : WS} {rr : Int32} (cx : Cx D cy z RX10 cX10_table 5 (some .int) 327 9944 "table" p R s m meth c) (hE : AC ws0 wsf R.cells R.slots) (x0 : Nat) (x1 : Int32) (x3 : Int32) (x4 : Option Nat) : At_ l D cy z p e R s m args below meth c ws0 wsf vI rr 5 43 [(0, .ref x0), (1, .int x1), (3, .int x3), (4, va_rf x4)] [] (j_X10_table_43 x0 x1 x3 x4) := by
  intro ws H locs cells slots ls hl hH hF
  obtain ⟨hx, hb, hr, hml, hown, hk, hz, hlocks, hnm, hfr, hlo⟩ := id cx
  unfold j_X10_table_43 at hF
  refine lv_aload_n hx hb dX10_table_43 rfl (lv_at hl 0 rfl) ?_
  refine m_gR hx hb hown hk hH hF fk_RX10_tables lk_RX10_29 dX10_table_44 (fun v7 hF => ?_)
  refine lv_iload_n hx hb dX10_table_47 rfl (lv_at hl 1 rfl) ?_
  refine m_aR (t := 11) hx hb hk hH ⟨by decide, rfl⟩ hF dX10_table_48 (fun v8 hF => ?_)
  refine m_ifnonnull (tgt := 65) hx hb dX10_table_49 (by decide) (fun hc8 => ?_) (fun hc8 => ?_)
  · have hF := bq_f hc8 hF
    exact w_X10_table_65 cx hE x0 x1 x3 x4 _ _ _ _ _ _ (lv_sub hl [0, 1, 2, 3] rfl) hH hF
  · have hF := bq_t hc8 hF
    refine lv_aload_n hx hb dX10_table_52 rfl (lv_at hl 0 rfl) ?_
    refine m_gR hx hb hown hk hH hF fk_RX10_tables lk_RX10_29 dX10_table_53 (fun v14 hF => ?_)
    refine lv_iload_n hx hb dX10_table_56 rfl (lv_at hl 1 rfl) ?_
    refine m_new hx hb hown hk hH hE.le hz hF rfl nf_RX9 wd_60 wd_622 wd_45 dX10_table_57 (fun a15 ws H hH hF => ?_)
    refine lv_dup hx hb dX10_table_60 rfl ?_
    refine m_cIN hx hb hml hown hk hH hE.le hz (b := a15) (As := []) (rest := [.ref a15, .int x1, va_rf v14]) (t_X9_init l D cy z a15) hF ⟨_, wd_623⟩ wd_624 wd_45 wd_625 yn_X9_init rfl ⟨Nat.le_trans (by decide) hfr, Nat.le_trans (by decide) hlo⟩ hl.1 (by first | exact Nat.le_of_ble_eq_true rfl | simp [m_cat, m_ci, m_cl, m_cf, m_cd, m_cr]) rfl dX10_table_61 (fun c16 ws H locs cells slots hH hF => ?_)
    refine m_sR (t := 11) hx hb hk hH ⟨by decide, rfl⟩ (m_c1 ⟨_, rfl, Or.inl rfl⟩) hF dX10_table_64 (fun ws H locs hH hF => ?_)
    exact w_X10_table_65 cx hE x0 x1 x3 x4 _ _ _ _ _ _ (lv_sub hl [0, 1, 2, 3] rfl) hH hF
set_option maxHeartbeats 4000000 in
set_option maxRecDepth 100000 in
theorem t_X10_table (l : Launch) (D : va_G) (cy : Nat → ClassId) (z : Nat) (o : Nat) (x1 : Int32) (x2 : Int32) (x3 : Int32) : MT l D cy z yX10_table cX10_table 5 (some .int) 327 9944 (F_X10_table o x1 x2 x3) vI [.ref o, .int x1, .int x2, .int x3] := by
  refine m_enter [(0, .ref o), (1, .int x1), (2, .int x2), (3, .int x3)] (by decide) (by first | rfl | simp [lv_args, m_cat, m_ci, m_cl, m_cf, m_cd, m_cr]) (by first | exact Nat.le_of_ble_eq_true rfl | simp [lg_sl, m_cat, m_ci, m_cl, m_cf, m_cd, m_cr]) ?_
  intro p e R s m args below meth c ws0 wsf rr cx hE ws H locs cells slots ls hl hH hF
  obtain ⟨hx, hb, hr, hml, hown, hk, hz, hlocks, hnm, hfr, hlo⟩ := id cx
  unfold F_X10_table at hF
  refine lv_aload_n hx hb dX10_table_0 rfl (lv_at hl 0 rfl) ?_
  refine lv_iload_n hx hb dX10_table_1 rfl (lv_at hl 2 rfl) ?_
  refine m_cVR hx hb hml hown hk hH hE.le hz (F := fun q2 => F_X10_curveNumbered q2.1 x2) (C := RX10) (T := TX10) (N := 7) rfl (As := [.int x2]) (rest := []) (fun o => t_X10_curveNumbered l D cy z o x2) hF wd_339 wd_341 wd_33 wd_342 wd_5 yn_X10_curveNumbered ⟨Nat.le_trans (by decide) hfr, Nat.le_trans (by decide) hlo⟩ hl.1 (by first | exact Nat.le_of_ble_eq_true rfl | simp [m_cat, m_ci, m_cl, m_cf, m_cd, m_cr]) rfl dX10_table_2 (fun c1 ws H locs cells slots hH hF => ?_)
  refine m_astore (lv' := [(4, va_rf c1), (0, .ref o), (1, .int x1), (2, .int x2), (3, .int x3)]) hx hb dX10_table_5 hl (by decide) (by first | rfl | simp [m_cat, m_ci, m_cl, m_cf, m_cd, m_cr]) (fun ls hl => ?_)
  refine lv_iload_n hx hb dX10_table_7 rfl (lv_at hl 2 rfl) ?_
  refine lv_if_lt (tgt := 40) hx hb dX10_table_8 (by decide) (fun hc2 => ?_) (fun hc2 => ?_)
  · have hF := bq_t hc2 hF
    refine lv_bipush (v := (-2)) hx hb dX10_table_40 (by decide) ?_
    exact m_iret hx hb hr hlocks hH hE hF rfl dX10_table_42
  · have hF := bq_f hc2 hF
    refine lv_iload_n hx hb dX10_table_11 rfl (lv_at hl 2 rfl) ?_
    refine lv_iconst (v := (4)) hx hb dX10_table_12 (by decide) ?_
    refine lv_icmp_ge (tgt := 40) hx hb dX10_table_13 (by decide) (fun hc3 => ?_) (fun hc3 => ?_)
    · have hF := bq_t hc3 hF
      refine lv_bipush (v := (-2)) hx hb dX10_table_40 (by decide) ?_
      exact m_iret hx hb hr hlocks hH hE hF rfl dX10_table_42
    · have hF := bq_f hc3 hF
      refine m_aload hx hb dX10_table_16 (lv_at hl 0 rfl) ?_
      refine m_ifnull (tgt := 40) hx hb dX10_table_18 (by decide) (fun hc4 => ?_) (fun hc4 => ?_)
      · have hF := bq_t hc4 hF
        refine lv_bipush (v := (-2)) hx hb dX10_table_40 (by decide) ?_
        exact m_iret hx hb hr hlocks hH hE hF rfl dX10_table_42
      · have hF := bq_f hc4 hF
        refine lv_iload_n hx hb dX10_table_21 rfl (lv_at hl 4 rfl) ?_
        refine lv_bipush (v := (16)) hx hb dX10_table_22 (by decide) ?_
        refine lv_icmp_eq (tgt := 43) hx hb dX10_table_24 (by decide) (fun hc5 => ?_) (fun hc5 => ?_)
        · have hF := bq_t hc5 hF
          exact w_X10_table_43 cx hE o x1 x3 c1 _ _ _ _ _ _ (lv_sub hl [1, 2, 4, 0] rfl) hH hF
        · have hF := bq_f hc5 hF
          refine lv_iload_n hx hb dX10_table_27 rfl (lv_at hl 4 rfl) ?_
          refine lv_bipush (v := (64)) hx hb dX10_table_28 (by decide) ?_
          refine lv_icmp_eq (tgt := 43) hx hb dX10_table_30 (by decide) (fun hc16 => ?_) (fun hc16 => ?_)
          · have hF := bq_t hc16 hF
            exact w_X10_table_43 cx hE o x1 x3 c1 _ _ _ _ _ _ (lv_sub hl [1, 2, 4, 0] rfl) hH hF
          · have hF := bq_f hc16 hF
            refine lv_iload_n hx hb dX10_table_33 rfl (lv_at hl 4 rfl) ?_
            refine lv_sipush (v := (256)) hx hb dX10_table_34 (by decide) ?_
            refine lv_icmp_eq (tgt := 43) hx hb dX10_table_37 (by decide) (fun hc17 => ?_) (fun hc17 => ?_)
            · have hF := bq_t hc17 hF
              exact w_X10_table_43 cx hE o x1 x3 c1 _ _ _ _ _ _ (lv_sub hl [1, 2, 4, 0] rfl) hH hF
            · have hF := bq_f hc17 hF
              refine lv_bipush (v := (-2)) hx hb dX10_table_40 (by decide) ?_
              exact m_iret hx hb hr hlocks hH hE hF rfl dX10_table_42

def F_X10_tableNumbered (o : Nat) (x1 : Int32) : St (Option Nat) :=
  br (x1 < 0) (rt none) (br (x1 < (4 : Int32)) (bd (gR [9] 3 (some o)) fun v3 => bd (aR 11 v3 x1) fun v4 => rt v4) (rt none))
set_option maxHeartbeats 4000000 in
set_option maxRecDepth 100000 in
theorem t_X10_tableNumbered (l : Launch) (D : va_G) (cy : Nat → ClassId) (z : Nat) (o : Nat) (x1 : Int32) : MT l D cy z yX10_tableNumbered cX10_tableNumbered 2 (some (.object "CurveFoundry$Table")) 0 0 (F_X10_tableNumbered o x1) vR [.ref o, .int x1] := by
  refine m_enter [(0, .ref o), (1, .int x1)] (by decide) (by first | rfl | simp [lv_args, m_cat, m_ci, m_cl, m_cf, m_cd, m_cr]) (by first | exact Nat.le_of_ble_eq_true rfl | simp [lg_sl, m_cat, m_ci, m_cl, m_cf, m_cd, m_cr]) ?_
  intro p e R s m args below meth c ws0 wsf rr cx hE ws H locs cells slots ls hl hH hF
  obtain ⟨hx, hb, hr, hml, hown, hk, hz, hlocks, hnm, hfr, hlo⟩ := id cx
  unfold F_X10_tableNumbered at hF
  refine lv_iload_n hx hb dX10_tableNumbered_0 rfl (lv_at hl 1 rfl) ?_
  refine lv_if_lt (tgt := 9) hx hb dX10_tableNumbered_1 (by decide) (fun hc0 => ?_) (fun hc0 => ?_)
  · have hF := bq_t hc0 hF
    refine lv_null hx hb dX10_tableNumbered_9 ?_
    refine lv_goto (tgt := 19) hx hb dX10_tableNumbered_10 (by decide) ?_
    exact m_aret hx hb hr (Or.inl ⟨_, rfl⟩) hlocks hH hE hF dX10_tableNumbered_19
  · have hF := bq_f hc0 hF
    refine lv_iload_n hx hb dX10_tableNumbered_4 rfl (lv_at hl 1 rfl) ?_
    refine lv_iconst (v := (4)) hx hb dX10_tableNumbered_5 (by decide) ?_
    refine lv_icmp_lt (tgt := 13) hx hb dX10_tableNumbered_6 (by decide) (fun hc1 => ?_) (fun hc1 => ?_)
    · have hF := bq_t hc1 hF
      refine lv_aload_n hx hb dX10_tableNumbered_13 rfl (lv_at hl 0 rfl) ?_
      refine m_gR hx hb hown hk hH hF fk_RX10_tables lk_RX10_29 dX10_tableNumbered_14 (fun v3 hF => ?_)
      refine lv_iload_n hx hb dX10_tableNumbered_17 rfl (lv_at hl 1 rfl) ?_
      refine m_aR (t := 11) hx hb hk hH ⟨by decide, rfl⟩ hF dX10_tableNumbered_18 (fun v4 hF => ?_)
      exact m_aret hx hb hr (Or.inl ⟨_, rfl⟩) hlocks hH hE hF dX10_tableNumbered_19
    · have hF := bq_f hc1 hF
      refine lv_null hx hb dX10_tableNumbered_9 ?_
      refine lv_goto (tgt := 19) hx hb dX10_tableNumbered_10 (by decide) ?_
      exact m_aret hx hb hr (Or.inl ⟨_, rfl⟩) hlocks hH hE hF dX10_tableNumbered_19

def F_X10_entry (o : Nat) (x1 : Int32) (x2 : Int32) : St (UInt64) :=
  bd (dr [9] (some o)) fun q2 => bd (F_X10_tableNumbered q2.1 x1) fun c1 => br (c1 = none) (rt (13924712783166832640 : UInt64)) (bd (dr [8] c1) fun q5 => bd (F_X9_has q5.1 x2) fun c4 => br (c4 = 0) (rt (13924712783166832640 : UInt64)) (bd (gR [8] 0 c1) fun v7 => bd (aF v7 x2) fun v8 => bd (ck ((FP.f2d v8) &&& 0x7fffffffffffffff ≤ 0x7ff0000000000000)) fun _ => bd (rt (FP.f2d v8)) fun r9 => rt r9))
set_option maxHeartbeats 4000000 in
set_option maxRecDepth 100000 in
theorem t_X10_entry (l : Launch) (D : va_G) (cy : Nat → ClassId) (z : Nat) (o : Nat) (x1 : Int32) (x2 : Int32) : MT l D cy z yX10_entry cX10_entry 4 (some .double) 1 40 (F_X10_entry o x1 x2) vD [.ref o, .int x1, .int x2] := by
  refine m_enter [(0, .ref o), (1, .int x1), (2, .int x2)] (by decide) (by first | rfl | simp [lv_args, m_cat, m_ci, m_cl, m_cf, m_cd, m_cr]) (by first | exact Nat.le_of_ble_eq_true rfl | simp [lg_sl, m_cat, m_ci, m_cl, m_cf, m_cd, m_cr]) ?_
  intro p e R s m args below meth c ws0 wsf rr cx hE ws H locs cells slots ls hl hH hF
  obtain ⟨hx, hb, hr, hml, hown, hk, hz, hlocks, hnm, hfr, hlo⟩ := id cx
  unfold F_X10_entry at hF
  refine lv_aload_n hx hb dX10_entry_0 rfl (lv_at hl 0 rfl) ?_
  refine lv_iload_n hx hb dX10_entry_1 rfl (lv_at hl 1 rfl) ?_
  refine m_cVR hx hb hml hown hk hH hE.le hz (F := fun q2 => F_X10_tableNumbered q2.1 x1) (C := RX10) (T := TX10) (N := 7) rfl (As := [.int x1]) (rest := []) (fun o => t_X10_tableNumbered l D cy z o x1) hF wd_660 wd_662 wd_33 wd_663 wd_12 yn_X10_tableNumbered ⟨Nat.le_trans (by decide) hfr, Nat.le_trans (by decide) hlo⟩ hl.1 (by first | exact Nat.le_of_ble_eq_true rfl | simp [m_cat, m_ci, m_cl, m_cf, m_cd, m_cr]) rfl dX10_entry_2 (fun c1 ws H locs cells slots hH hF => ?_)
  refine m_astore_n (lv' := [(3, va_rf c1), (0, .ref o), (1, .int x1), (2, .int x2)]) hx hb dX10_entry_5 rfl hl (by decide) (by first | rfl | simp [m_cat, m_ci, m_cl, m_cf, m_cd, m_cr]) (fun ls hl => ?_)
  refine m_aload_n hx hb dX10_entry_6 rfl (lv_at hl 0 rfl) ?_
  refine m_ifnull (tgt := 18) hx hb dX10_entry_7 (by decide) (fun hc2 => ?_) (fun hc2 => ?_)
  · have hF := bq_t hc2 hF
    refine lv_ldc2d hx hb hown (hk.wd wd_668 args) dX10_entry_18 ?_
    refine lv_goto (tgt := 31) hx hb dX10_entry_21 (by decide) ?_
    exact m_dret hx hb hr hlocks hH hE hF dX10_entry_31
  · have hF := bq_f hc2 hF
    refine m_aload_n hx hb dX10_entry_10 rfl (lv_at hl 0 rfl) ?_
    refine lv_iload_n hx hb dX10_entry_11 rfl (lv_at hl 3 rfl) ?_
    refine m_cVI hx hb hml hown hk hH hE.le hz (F := fun q5 => F_X9_has q5.1 x2) (C := RX9) (T := TX9) (N := 6) rfl (As := [.int x2]) (rest := []) (fun o => t_X9_has l D cy z o x2) hF wd_664 wd_665 wd_45 wd_667 wd_666 yn_X9_has ⟨Nat.le_trans (by decide) hfr, Nat.le_trans (by decide) hlo⟩ hl.1 (by first | exact Nat.le_of_ble_eq_true rfl | simp [m_cat, m_ci, m_cl, m_cf, m_cd, m_cr]) rfl dX10_entry_12 (fun c4 ws H locs cells slots hH hF => ?_)
    refine lv_if_ne (tgt := 24) hx hb dX10_entry_15 (by decide) (fun hc5 => ?_) (fun hc5 => ?_)
    · have hF := bq_f hc5 hF
      refine m_aload_n hx hb dX10_entry_24 rfl (lv_at hl 0 rfl) ?_
      refine m_gR hx hb hown hk hH hF fk_RX9_entries lk_RX10_197 dX10_entry_25 (fun v7 hF => ?_)
      refine lv_iload_n hx hb dX10_entry_28 rfl (lv_at hl 3 rfl) ?_
      refine m_aF hx hb hk hH hF dX10_entry_29 (fun v8 hF => ?_)
      obtain ⟨hqr9, hF⟩ := ck_t hF
      refine lv_f2d hx hb dX10_entry_30 hqr9 ?_
      refine lv_topd (fun r9 hr9 => ?_)
      have hF := rt_t hr9 hF
      exact m_dret hx hb hr hlocks hH hE hF dX10_entry_31
    · have hF := bq_t hc5 hF
      refine lv_ldc2d hx hb hown (hk.wd wd_668 args) dX10_entry_18 ?_
      refine lv_goto (tgt := 31) hx hb dX10_entry_21 (by decide) ?_
      exact m_dret hx hb hr hlocks hH hE hF dX10_entry_31

def F_X10_lookup (o : Nat) (x1 : Int32) (x2 : Int32) : St (UInt64) :=
  bd (dr [9] (some o)) fun q2 => bd (F_X10_tableNumbered q2.1 x1) fun c1 => br (c1 = none) (rt (13924712783166832640 : UInt64)) (bd (F_X10_isCount x2) fun c4 => br (c4 = 0) (rt (13924712783166832640 : UInt64)) (bd (dr [8] c1) fun q7 => bd (F_X9_read q7.1 x2) fun c6 => bd (ck ((FP.f2d c6) &&& 0x7fffffffffffffff ≤ 0x7ff0000000000000)) fun _ => bd (rt (FP.f2d c6)) fun r8 => rt r8))
set_option maxHeartbeats 4000000 in
set_option maxRecDepth 100000 in
theorem t_X10_lookup (l : Launch) (D : va_G) (cy : Nat → ClassId) (z : Nat) (o : Nat) (x1 : Int32) (x2 : Int32) : MT l D cy z yX10_lookup cX10_lookup 4 (some .double) 1 40 (F_X10_lookup o x1 x2) vD [.ref o, .int x1, .int x2] := by
  refine m_enter [(0, .ref o), (1, .int x1), (2, .int x2)] (by decide) (by first | rfl | simp [lv_args, m_cat, m_ci, m_cl, m_cf, m_cd, m_cr]) (by first | exact Nat.le_of_ble_eq_true rfl | simp [lg_sl, m_cat, m_ci, m_cl, m_cf, m_cd, m_cr]) ?_
  intro p e R s m args below meth c ws0 wsf rr cx hE ws H locs cells slots ls hl hH hF
  obtain ⟨hx, hb, hr, hml, hown, hk, hz, hlocks, hnm, hfr, hlo⟩ := id cx
  unfold F_X10_lookup at hF
  refine lv_aload_n hx hb dX10_lookup_0 rfl (lv_at hl 0 rfl) ?_
  refine lv_iload_n hx hb dX10_lookup_1 rfl (lv_at hl 1 rfl) ?_
  refine m_cVR hx hb hml hown hk hH hE.le hz (F := fun q2 => F_X10_tableNumbered q2.1 x1) (C := RX10) (T := TX10) (N := 7) rfl (As := [.int x1]) (rest := []) (fun o => t_X10_tableNumbered l D cy z o x1) hF wd_660 wd_662 wd_33 wd_663 wd_12 yn_X10_tableNumbered ⟨Nat.le_trans (by decide) hfr, Nat.le_trans (by decide) hlo⟩ hl.1 (by first | exact Nat.le_of_ble_eq_true rfl | simp [m_cat, m_ci, m_cl, m_cf, m_cd, m_cr]) rfl dX10_lookup_2 (fun c1 ws H locs cells slots hH hF => ?_)
  refine m_astore_n (lv' := [(3, va_rf c1), (0, .ref o), (1, .int x1), (2, .int x2)]) hx hb dX10_lookup_5 rfl hl (by decide) (by first | rfl | simp [m_cat, m_ci, m_cl, m_cf, m_cd, m_cr]) (fun ls hl => ?_)
  refine m_aload_n hx hb dX10_lookup_6 rfl (lv_at hl 0 rfl) ?_
  refine m_ifnull (tgt := 17) hx hb dX10_lookup_7 (by decide) (fun hc2 => ?_) (fun hc2 => ?_)
  · have hF := bq_t hc2 hF
    refine lv_ldc2d hx hb hown (hk.wd wd_668 args) dX10_lookup_17 ?_
    refine lv_goto (tgt := 29) hx hb dX10_lookup_20 (by decide) ?_
    exact m_dret hx hb hr hlocks hH hE hF dX10_lookup_29
  · have hF := bq_f hc2 hF
    refine lv_iload_n hx hb dX10_lookup_10 rfl (lv_at hl 3 rfl) ?_
    refine m_cSI hx hb hml hown hk hH hE.le hz (As := [.int x2]) (rest := []) (t_X10_isCount l D cy z x2) hF wd_197 wd_198 wd_33 wd_199 yn_X10_isCount ⟨Nat.le_trans (by decide) hfr, Nat.le_trans (by decide) hlo⟩ hl.1 (by first | exact Nat.le_of_ble_eq_true rfl | simp [m_cat, m_ci, m_cl, m_cf, m_cd, m_cr]) rfl dX10_lookup_11 (fun c4 ws H locs cells slots hH hF => ?_)
    refine lv_if_ne (tgt := 23) hx hb dX10_lookup_14 (by decide) (fun hc4 => ?_) (fun hc4 => ?_)
    · have hF := bq_f hc4 hF
      refine m_aload_n hx hb dX10_lookup_23 rfl (lv_at hl 0 rfl) ?_
      refine lv_iload_n hx hb dX10_lookup_24 rfl (lv_at hl 3 rfl) ?_
      refine m_cVF hx hb hml hown hk hH hE.le hz (F := fun q7 => F_X9_read q7.1 x2) (C := RX9) (T := TX9) (N := 6) rfl (As := [.int x2]) (rest := []) (fun o => t_X9_read l D cy z o x2) hF wd_673 wd_674 wd_45 wd_676 wd_675 yn_X9_read ⟨Nat.le_trans (by decide) hfr, Nat.le_trans (by decide) hlo⟩ hl.1 (by first | exact Nat.le_of_ble_eq_true rfl | simp [m_cat, m_ci, m_cl, m_cf, m_cd, m_cr]) rfl dX10_lookup_25 (fun c6 ws H locs cells slots hH hF => ?_)
      obtain ⟨hqr8, hF⟩ := ck_t hF
      refine lv_f2d hx hb dX10_lookup_28 hqr8 ?_
      refine lv_topd (fun r8 hr8 => ?_)
      have hF := rt_t hr8 hF
      exact m_dret hx hb hr hlocks hH hE hF dX10_lookup_29
    · have hF := bq_t hc4 hF
      refine lv_ldc2d hx hb hown (hk.wd wd_668 args) dX10_lookup_17 ?_
      refine lv_goto (tgt := 29) hx hb dX10_lookup_20 (by decide) ?_
      exact m_dret hx hb hr hlocks hH hE hF dX10_lookup_29

def F_X10_off (o : Nat) (x1 : Int32) : St (UInt64) :=
  bd (dr [9] (some o)) fun q2 => bd (F_X10_tableNumbered q2.1 x1) fun c1 => br (c1 = none) (rt (13924712783166832640 : UInt64)) (bd (dr [8] c1) fun q5 => bd (F_X9_measure q5.1) fun c4 => bd (gD [8] 4 c1) fun v6 => rt v6)
set_option maxHeartbeats 4000000 in
set_option maxRecDepth 100000 in
theorem t_X10_off (l : Launch) (D : va_G) (cy : Nat → ClassId) (z : Nat) (o : Nat) (x1 : Int32) : MT l D cy z yX10_off cX10_off 3 (some .double) 786 23848 (F_X10_off o x1) vD [.ref o, .int x1] := by
  refine m_enter [(0, .ref o), (1, .int x1)] (by decide) (by first | rfl | simp [lv_args, m_cat, m_ci, m_cl, m_cf, m_cd, m_cr]) (by first | exact Nat.le_of_ble_eq_true rfl | simp [lg_sl, m_cat, m_ci, m_cl, m_cf, m_cd, m_cr]) ?_
  intro p e R s m args below meth c ws0 wsf rr cx hE ws H locs cells slots ls hl hH hF
  obtain ⟨hx, hb, hr, hml, hown, hk, hz, hlocks, hnm, hfr, hlo⟩ := id cx
  unfold F_X10_off at hF
  refine lv_aload_n hx hb dX10_off_0 rfl (lv_at hl 0 rfl) ?_
  refine lv_iload_n hx hb dX10_off_1 rfl (lv_at hl 1 rfl) ?_
  refine m_cVR hx hb hml hown hk hH hE.le hz (F := fun q2 => F_X10_tableNumbered q2.1 x1) (C := RX10) (T := TX10) (N := 7) rfl (As := [.int x1]) (rest := []) (fun o => t_X10_tableNumbered l D cy z o x1) hF wd_660 wd_662 wd_33 wd_663 wd_12 yn_X10_tableNumbered ⟨Nat.le_trans (by decide) hfr, Nat.le_trans (by decide) hlo⟩ hl.1 (by first | exact Nat.le_of_ble_eq_true rfl | simp [m_cat, m_ci, m_cl, m_cf, m_cd, m_cr]) rfl dX10_off_2 (fun c1 ws H locs cells slots hH hF => ?_)
  refine m_astore_n (lv' := [(2, va_rf c1), (0, .ref o), (1, .int x1)]) hx hb dX10_off_5 rfl hl (by decide) (by first | rfl | simp [m_cat, m_ci, m_cl, m_cf, m_cd, m_cr]) (fun ls hl => ?_)
  refine m_aload_n hx hb dX10_off_6 rfl (lv_at hl 0 rfl) ?_
  refine m_ifnonnull (tgt := 14) hx hb dX10_off_7 (by decide) (fun hc2 => ?_) (fun hc2 => ?_)
  · have hF := bq_f hc2 hF
    refine m_aload_n hx hb dX10_off_14 rfl (lv_at hl 0 rfl) ?_
    refine m_cVU hx hb hml hown hk hH hE.le hz (F := fun q5 => F_X9_measure q5.1) (C := RX9) (T := TX9) (N := 6) rfl (As := []) (rest := []) (fun o => t_X9_measure l D cy z o) hF wd_681 wd_682 wd_45 wd_684 wd_683 yn_X9_measure ⟨Nat.le_trans (by decide) hfr, Nat.le_trans (by decide) hlo⟩ hl.1 (by first | exact Nat.le_of_ble_eq_true rfl | simp [m_cat, m_ci, m_cl, m_cf, m_cd, m_cr]) rfl dX10_off_15 (fun c4 ws H locs cells slots hH hF => ?_)
    refine m_aload_n hx hb dX10_off_18 rfl (lv_at hl 0 rfl) ?_
    refine m_gD hx hb hown hk hH hF fk_RX9_farthest lk_RX10_208 dX10_off_19 (fun v6 hF => ?_)
    exact m_dret hx hb hr hlocks hH hE hF dX10_off_22
  · have hF := bq_t hc2 hF
    refine lv_ldc2d hx hb hown (hk.wd wd_668 args) dX10_off_10 ?_
    exact m_dret hx hb hr hlocks hH hE hF dX10_off_13

def F_X10_offAt (o : Nat) (x1 : Int32) : St (Int32) :=
  bd (dr [9] (some o)) fun q2 => bd (F_X10_tableNumbered q2.1 x1) fun c1 => br (c1 = none) (rt (-2 : Int32)) (bd (dr [8] c1) fun q5 => bd (F_X9_measure q5.1) fun c4 => bd (gI [8] 5 c1) fun v6 => rt v6)
set_option maxHeartbeats 4000000 in
set_option maxRecDepth 100000 in
theorem t_X10_offAt (l : Launch) (D : va_G) (cy : Nat → ClassId) (z : Nat) (o : Nat) (x1 : Int32) : MT l D cy z yX10_offAt cX10_offAt 3 (some .int) 786 23848 (F_X10_offAt o x1) vI [.ref o, .int x1] := by
  refine m_enter [(0, .ref o), (1, .int x1)] (by decide) (by first | rfl | simp [lv_args, m_cat, m_ci, m_cl, m_cf, m_cd, m_cr]) (by first | exact Nat.le_of_ble_eq_true rfl | simp [lg_sl, m_cat, m_ci, m_cl, m_cf, m_cd, m_cr]) ?_
  intro p e R s m args below meth c ws0 wsf rr cx hE ws H locs cells slots ls hl hH hF
  obtain ⟨hx, hb, hr, hml, hown, hk, hz, hlocks, hnm, hfr, hlo⟩ := id cx
  unfold F_X10_offAt at hF
  refine lv_aload_n hx hb dX10_offAt_0 rfl (lv_at hl 0 rfl) ?_
  refine lv_iload_n hx hb dX10_offAt_1 rfl (lv_at hl 1 rfl) ?_
  refine m_cVR hx hb hml hown hk hH hE.le hz (F := fun q2 => F_X10_tableNumbered q2.1 x1) (C := RX10) (T := TX10) (N := 7) rfl (As := [.int x1]) (rest := []) (fun o => t_X10_tableNumbered l D cy z o x1) hF wd_660 wd_662 wd_33 wd_663 wd_12 yn_X10_tableNumbered ⟨Nat.le_trans (by decide) hfr, Nat.le_trans (by decide) hlo⟩ hl.1 (by first | exact Nat.le_of_ble_eq_true rfl | simp [m_cat, m_ci, m_cl, m_cf, m_cd, m_cr]) rfl dX10_offAt_2 (fun c1 ws H locs cells slots hH hF => ?_)
  refine m_astore_n (lv' := [(2, va_rf c1), (0, .ref o), (1, .int x1)]) hx hb dX10_offAt_5 rfl hl (by decide) (by first | rfl | simp [m_cat, m_ci, m_cl, m_cf, m_cd, m_cr]) (fun ls hl => ?_)
  refine m_aload_n hx hb dX10_offAt_6 rfl (lv_at hl 0 rfl) ?_
  refine m_ifnonnull (tgt := 13) hx hb dX10_offAt_7 (by decide) (fun hc2 => ?_) (fun hc2 => ?_)
  · have hF := bq_f hc2 hF
    refine m_aload_n hx hb dX10_offAt_13 rfl (lv_at hl 0 rfl) ?_
    refine m_cVU hx hb hml hown hk hH hE.le hz (F := fun q5 => F_X9_measure q5.1) (C := RX9) (T := TX9) (N := 6) rfl (As := []) (rest := []) (fun o => t_X9_measure l D cy z o) hF wd_681 wd_682 wd_45 wd_684 wd_683 yn_X9_measure ⟨Nat.le_trans (by decide) hfr, Nat.le_trans (by decide) hlo⟩ hl.1 (by first | exact Nat.le_of_ble_eq_true rfl | simp [m_cat, m_ci, m_cl, m_cf, m_cd, m_cr]) rfl dX10_offAt_14 (fun c4 ws H locs cells slots hH hF => ?_)
    refine m_aload_n hx hb dX10_offAt_17 rfl (lv_at hl 0 rfl) ?_
    refine m_gI hx hb hown hk hH hF fk_RX9_farthestAt lk_RX10_212 dX10_offAt_18 (fun v6 hF => ?_)
    exact m_iret hx hb hr hlocks hH hE hF rfl dX10_offAt_21
  · have hF := bq_t hc2 hF
    refine lv_bipush (v := (-2)) hx hb dX10_offAt_10 (by decide) ?_
    exact m_iret hx hb hr hlocks hH hE hF rfl dX10_offAt_12

def F_X10_isBank (x0 : Int32) : St (Int32) :=
  br (x0 < 0) (rt (0 : Int32)) (br ((8 : Int32) ≤ x0) (rt (0 : Int32)) (rt (1 : Int32)))
set_option maxHeartbeats 4000000 in
set_option maxRecDepth 100000 in
theorem t_X10_isBank (l : Launch) (D : va_G) (cy : Nat → ClassId) (z : Nat) (x0 : Int32) : MT l D cy z yX10_isBank cX10_isBank 1 (some .boolean) 0 0 (F_X10_isBank x0) vI [.int x0] := by
  refine m_enter [(0, .int x0)] (by decide) (by first | rfl | simp [lv_args, m_cat, m_ci, m_cl, m_cf, m_cd, m_cr]) (by first | exact Nat.le_of_ble_eq_true rfl | simp [lg_sl, m_cat, m_ci, m_cl, m_cf, m_cd, m_cr]) ?_
  intro p e R s m args below meth c ws0 wsf rr cx hE ws H locs cells slots ls hl hH hF
  obtain ⟨hx, hb, hr, hml, hown, hk, hz, hlocks, hnm, hfr, hlo⟩ := id cx
  unfold F_X10_isBank at hF
  refine lv_iload_n hx hb dX10_isBank_0 rfl (lv_at hl 0 rfl) ?_
  refine lv_if_lt (tgt := 14) hx hb dX10_isBank_1 (by decide) (fun hc0 => ?_) (fun hc0 => ?_)
  · have hF := bq_t hc0 hF
    refine lv_iconst (v := (0)) hx hb dX10_isBank_14 (by decide) ?_
    exact m_iret hx hb hr hlocks hH hE hF rfl dX10_isBank_15
  · have hF := bq_f hc0 hF
    refine lv_iload_n hx hb dX10_isBank_4 rfl (lv_at hl 0 rfl) ?_
    refine lv_bipush (v := (8)) hx hb dX10_isBank_5 (by decide) ?_
    refine lv_icmp_ge (tgt := 14) hx hb dX10_isBank_7 (by decide) (fun hc1 => ?_) (fun hc1 => ?_)
    · have hF := bq_t hc1 hF
      refine lv_iconst (v := (0)) hx hb dX10_isBank_14 (by decide) ?_
      exact m_iret hx hb hr hlocks hH hE hF rfl dX10_isBank_15
    · have hF := bq_f hc1 hF
      refine lv_iconst (v := (1)) hx hb dX10_isBank_10 (by decide) ?_
      refine lv_goto (tgt := 15) hx hb dX10_isBank_11 (by decide) ?_
      exact m_iret hx hb hr hlocks hH hE hF rfl dX10_isBank_15

def F_X10_bank (o : Nat) (x1 : Int32) (x2 : Int32) : St (Int64) :=
  bd (F_X10_isBank x1) fun c1 => br (c1 = 0) (rt (-2 : Int64)) (br (x2 ≤ (64 : Int32)) (br (0 ≤ x2) (bd (gR [9] 4 (some o)) fun v5 => bd (dr [0] v5) fun q7 => bd (F_X0_open q7.1 x1 x2) fun c6 => rt x2.toInt64) (rt (-1000000000002 : Int64))) (rt (-2 : Int64)))
set_option maxHeartbeats 4000000 in
set_option maxRecDepth 100000 in
theorem t_X10_bank (l : Launch) (D : va_G) (cy : Nat → ClassId) (z : Nat) (o : Nat) (x1 : Int32) (x2 : Int32) : MT l D cy z yX10_bank cX10_bank 3 (some .long) 2 63 (F_X10_bank o x1 x2) vL [.ref o, .int x1, .int x2] := by
  refine m_enter [(0, .ref o), (1, .int x1), (2, .int x2)] (by decide) (by first | rfl | simp [lv_args, m_cat, m_ci, m_cl, m_cf, m_cd, m_cr]) (by first | exact Nat.le_of_ble_eq_true rfl | simp [lg_sl, m_cat, m_ci, m_cl, m_cf, m_cd, m_cr]) ?_
  intro p e R s m args below meth c ws0 wsf rr cx hE ws H locs cells slots ls hl hH hF
  obtain ⟨hx, hb, hr, hml, hown, hk, hz, hlocks, hnm, hfr, hlo⟩ := id cx
  unfold F_X10_bank at hF
  refine lv_iload_n hx hb dX10_bank_0 rfl (lv_at hl 1 rfl) ?_
  refine m_cSI hx hb hml hown hk hH hE.le hz (As := [.int x1]) (rest := []) (t_X10_isBank l D cy z x1) hF wd_697 wd_698 wd_33 wd_699 yn_X10_isBank ⟨Nat.le_trans (by decide) hfr, Nat.le_trans (by decide) hlo⟩ hl.1 (by first | exact Nat.le_of_ble_eq_true rfl | simp [m_cat, m_ci, m_cl, m_cf, m_cd, m_cr]) rfl dX10_bank_1 (fun c1 ws H locs cells slots hH hF => ?_)
  refine lv_if_eq (tgt := 13) hx hb dX10_bank_4 (by decide) (fun hc1 => ?_) (fun hc1 => ?_)
  · have hF := bq_t hc1 hF
    refine lv_ldc2 hx hb hown (hk.wd wd_562 args) dX10_bank_13 ?_
    exact m_lret hx hb hr hlocks hH hE hF dX10_bank_16
  · have hF := bq_f hc1 hF
    refine lv_iload_n hx hb dX10_bank_7 rfl (lv_at hl 2 rfl) ?_
    refine lv_bipush (v := (64)) hx hb dX10_bank_8 (by decide) ?_
    refine lv_icmp_le (tgt := 17) hx hb dX10_bank_10 (by decide) (fun hc2 => ?_) (fun hc2 => ?_)
    · have hF := bq_t hc2 hF
      refine lv_iload_n hx hb dX10_bank_17 rfl (lv_at hl 2 rfl) ?_
      refine lv_if_ge (tgt := 25) hx hb dX10_bank_18 (by decide) (fun hc3 => ?_) (fun hc3 => ?_)
      · have hF := bq_t hc3 hF
        refine lv_aload_n hx hb dX10_bank_25 rfl (lv_at hl 0 rfl) ?_
        refine m_gR hx hb hown hk hH hF fk_RX10_banks lk_RX10_36 dX10_bank_26 (fun v5 hF => ?_)
        refine lv_iload_n hx hb dX10_bank_29 rfl (lv_at hl 1 rfl) ?_
        refine lv_iload_n hx hb dX10_bank_30 rfl (lv_at hl 2 rfl) ?_
        refine m_cVU hx hb hml hown hk hH hE.le hz (F := fun q7 => F_X0_open q7.1 x1 x2) (C := RX0) (T := TX0) (N := 9) rfl (As := [.int x1, .int x2]) (rest := []) (fun o => t_X0_open l D cy z o x1 x2) hF wd_701 wd_702 wd_34 wd_704 wd_703 yn_X0_open ⟨Nat.le_trans (by decide) hfr, Nat.le_trans (by decide) hlo⟩ hl.1 (by first | exact Nat.le_of_ble_eq_true rfl | simp [m_cat, m_ci, m_cl, m_cf, m_cd, m_cr]) rfl dX10_bank_31 (fun c6 ws H locs cells slots hH hF => ?_)
        refine lv_iload_n hx hb dX10_bank_34 rfl (lv_at hl 2 rfl) ?_
        refine lv_i2l hx hb dX10_bank_35 rfl ?_
        exact m_lret hx hb hr hlocks hH hE hF dX10_bank_36
      · have hF := bq_f hc3 hF
        refine lv_ldc2 hx hb hown (hk.wd wd_700 args) dX10_bank_21 ?_
        exact m_lret hx hb hr hlocks hH hE hF dX10_bank_24
    · have hF := bq_f hc2 hF
      refine lv_ldc2 hx hb hown (hk.wd wd_562 args) dX10_bank_13 ?_
      exact m_lret hx hb hr hlocks hH hE hF dX10_bank_16

def F_X10_free (o : Nat) (x1 : Int32) : St (Int32) :=
  bd (F_X10_isBank x1) fun c1 => br (c1 = 0) (rt (-2 : Int32)) (bd (gR [9] 4 (some o)) fun v3 => bd (dr [0] v3) fun q5 => bd (F_X0_close q5.1 x1) fun c4 => br (c4 = 0) (rt (0 : Int32)) (rt (1 : Int32)))
set_option maxHeartbeats 4000000 in
set_option maxRecDepth 100000 in
theorem t_X10_free (l : Launch) (D : va_G) (cy : Nat → ClassId) (z : Nat) (o : Nat) (x1 : Int32) : MT l D cy z yX10_free cX10_free 2 (some .int) 2 62 (F_X10_free o x1) vI [.ref o, .int x1] := by
  refine m_enter [(0, .ref o), (1, .int x1)] (by decide) (by first | rfl | simp [lv_args, m_cat, m_ci, m_cl, m_cf, m_cd, m_cr]) (by first | exact Nat.le_of_ble_eq_true rfl | simp [lg_sl, m_cat, m_ci, m_cl, m_cf, m_cd, m_cr]) ?_
  intro p e R s m args below meth c ws0 wsf rr cx hE ws H locs cells slots ls hl hH hF
  obtain ⟨hx, hb, hr, hml, hown, hk, hz, hlocks, hnm, hfr, hlo⟩ := id cx
  unfold F_X10_free at hF
  refine lv_iload_n hx hb dX10_free_0 rfl (lv_at hl 1 rfl) ?_
  refine m_cSI hx hb hml hown hk hH hE.le hz (As := [.int x1]) (rest := []) (t_X10_isBank l D cy z x1) hF wd_697 wd_698 wd_33 wd_699 yn_X10_isBank ⟨Nat.le_trans (by decide) hfr, Nat.le_trans (by decide) hlo⟩ hl.1 (by first | exact Nat.le_of_ble_eq_true rfl | simp [m_cat, m_ci, m_cl, m_cf, m_cd, m_cr]) rfl dX10_free_1 (fun c1 ws H locs cells slots hH hF => ?_)
  refine lv_if_ne (tgt := 10) hx hb dX10_free_4 (by decide) (fun hc1 => ?_) (fun hc1 => ?_)
  · have hF := bq_f hc1 hF
    refine lv_aload_n hx hb dX10_free_10 rfl (lv_at hl 0 rfl) ?_
    refine m_gR hx hb hown hk hH hF fk_RX10_banks lk_RX10_36 dX10_free_11 (fun v3 hF => ?_)
    refine lv_iload_n hx hb dX10_free_14 rfl (lv_at hl 1 rfl) ?_
    refine m_cVI hx hb hml hown hk hH hE.le hz (F := fun q5 => F_X0_close q5.1 x1) (C := RX0) (T := TX0) (N := 9) rfl (As := [.int x1]) (rest := []) (fun o => t_X0_close l D cy z o x1) hF wd_715 wd_716 wd_34 wd_718 wd_717 yn_X0_close ⟨Nat.le_trans (by decide) hfr, Nat.le_trans (by decide) hlo⟩ hl.1 (by first | exact Nat.le_of_ble_eq_true rfl | simp [m_cat, m_ci, m_cl, m_cf, m_cd, m_cr]) rfl dX10_free_15 (fun c4 ws H locs cells slots hH hF => ?_)
    refine lv_if_eq (tgt := 25) hx hb dX10_free_18 (by decide) (fun hc5 => ?_) (fun hc5 => ?_)
    · have hF := bq_t hc5 hF
      refine lv_iconst (v := (0)) hx hb dX10_free_25 (by decide) ?_
      exact m_iret hx hb hr hlocks hH hE hF rfl dX10_free_26
    · have hF := bq_f hc5 hF
      refine lv_iconst (v := (1)) hx hb dX10_free_21 (by decide) ?_
      refine lv_goto (tgt := 26) hx hb dX10_free_22 (by decide) ?_
      exact m_iret hx hb hr hlocks hH hE hF rfl dX10_free_26
  · have hF := bq_t hc1 hF
    refine lv_bipush (v := (-2)) hx hb dX10_free_7 (by decide) ?_
    exact m_iret hx hb hr hlocks hH hE hF rfl dX10_free_9

def F_X10_faultOf (o : Nat) (x1 : Int32) (x2 : Int32) : St (Int64) :=
  bd (F_X10_isBank x1) fun c1 => br (c1 = 0) (rt (-2 : Int64)) (bd (gR [9] 4 (some o)) fun v3 => bd (dr [0] v3) fun q5 => bd (F_X0_isOpen q5.1 x1) fun c4 => br (c4 = 0) (rt (-1000000000000 : Int64)) (bd (gR [9] 4 (some o)) fun v7 => bd (dr [0] v7) fun q9 => bd (F_X0_has q9.1 x1 x2) fun c8 => br (c8 = 0) (rt (-1000000000001 : Int64)) (rt (0 : Int64))))
set_option maxHeartbeats 4000000 in
set_option maxRecDepth 100000 in
theorem t_X10_faultOf (l : Launch) (D : va_G) (cy : Nat → ClassId) (z : Nat) (o : Nat) (x1 : Int32) (x2 : Int32) : MT l D cy z yX10_faultOf cX10_faultOf 3 (some .long) 1 40 (F_X10_faultOf o x1 x2) vL [.ref o, .int x1, .int x2] := by
  refine m_enter [(0, .ref o), (1, .int x1), (2, .int x2)] (by decide) (by first | rfl | simp [lv_args, m_cat, m_ci, m_cl, m_cf, m_cd, m_cr]) (by first | exact Nat.le_of_ble_eq_true rfl | simp [lg_sl, m_cat, m_ci, m_cl, m_cf, m_cd, m_cr]) ?_
  intro p e R s m args below meth c ws0 wsf rr cx hE ws H locs cells slots ls hl hH hF
  obtain ⟨hx, hb, hr, hml, hown, hk, hz, hlocks, hnm, hfr, hlo⟩ := id cx
  unfold F_X10_faultOf at hF
  refine lv_iload_n hx hb dX10_faultOf_0 rfl (lv_at hl 1 rfl) ?_
  refine m_cSI hx hb hml hown hk hH hE.le hz (As := [.int x1]) (rest := []) (t_X10_isBank l D cy z x1) hF wd_697 wd_698 wd_33 wd_699 yn_X10_isBank ⟨Nat.le_trans (by decide) hfr, Nat.le_trans (by decide) hlo⟩ hl.1 (by first | exact Nat.le_of_ble_eq_true rfl | simp [m_cat, m_ci, m_cl, m_cf, m_cd, m_cr]) rfl dX10_faultOf_1 (fun c1 ws H locs cells slots hH hF => ?_)
  refine lv_if_ne (tgt := 11) hx hb dX10_faultOf_4 (by decide) (fun hc1 => ?_) (fun hc1 => ?_)
  · have hF := bq_f hc1 hF
    refine lv_aload_n hx hb dX10_faultOf_11 rfl (lv_at hl 0 rfl) ?_
    refine m_gR hx hb hown hk hH hF fk_RX10_banks lk_RX10_36 dX10_faultOf_12 (fun v3 hF => ?_)
    refine lv_iload_n hx hb dX10_faultOf_15 rfl (lv_at hl 1 rfl) ?_
    refine m_cVI hx hb hml hown hk hH hE.le hz (F := fun q5 => F_X0_isOpen q5.1 x1) (C := RX0) (T := TX0) (N := 9) rfl (As := [.int x1]) (rest := []) (fun o => t_X0_isOpen l D cy z o x1) hF wd_731 wd_720 wd_34 wd_722 wd_721 yn_X0_isOpen ⟨Nat.le_trans (by decide) hfr, Nat.le_trans (by decide) hlo⟩ hl.1 (by first | exact Nat.le_of_ble_eq_true rfl | simp [m_cat, m_ci, m_cl, m_cf, m_cd, m_cr]) rfl dX10_faultOf_16 (fun c4 ws H locs cells slots hH hF => ?_)
    refine lv_if_ne (tgt := 26) hx hb dX10_faultOf_19 (by decide) (fun hc5 => ?_) (fun hc5 => ?_)
    · have hF := bq_f hc5 hF
      refine lv_aload_n hx hb dX10_faultOf_26 rfl (lv_at hl 0 rfl) ?_
      refine m_gR hx hb hown hk hH hF fk_RX10_banks lk_RX10_36 dX10_faultOf_27 (fun v7 hF => ?_)
      refine lv_iload_n hx hb dX10_faultOf_30 rfl (lv_at hl 1 rfl) ?_
      refine lv_iload_n hx hb dX10_faultOf_31 rfl (lv_at hl 2 rfl) ?_
      refine m_cVI hx hb hml hown hk hH hE.le hz (F := fun q9 => F_X0_has q9.1 x1 x2) (C := RX0) (T := TX0) (N := 9) rfl (As := [.int x1, .int x2]) (rest := []) (fun o => t_X0_has l D cy z o x1 x2) hF wd_733 wd_734 wd_34 wd_736 wd_735 yn_X0_has ⟨Nat.le_trans (by decide) hfr, Nat.le_trans (by decide) hlo⟩ hl.1 (by first | exact Nat.le_of_ble_eq_true rfl | simp [m_cat, m_ci, m_cl, m_cf, m_cd, m_cr]) rfl dX10_faultOf_32 (fun c8 ws H locs cells slots hH hF => ?_)
      refine lv_if_eq (tgt := 42) hx hb dX10_faultOf_35 (by decide) (fun hc9 => ?_) (fun hc9 => ?_)
      · have hF := bq_t hc9 hF
        refine lv_ldc2 hx hb hown (hk.wd wd_737 args) dX10_faultOf_42 ?_
        exact m_lret hx hb hr hlocks hH hE hF dX10_faultOf_45
      · have hF := bq_f hc9 hF
        refine lv_lconst (v := (0)) hx hb dX10_faultOf_38 (by decide) ?_
        refine lv_goto (tgt := 45) hx hb dX10_faultOf_39 (by decide) ?_
        exact m_lret hx hb hr hlocks hH hE hF dX10_faultOf_45
    · have hF := bq_t hc5 hF
      refine lv_ldc2 hx hb hown (hk.wd wd_732 args) dX10_faultOf_22 ?_
      exact m_lret hx hb hr hlocks hH hE hF dX10_faultOf_25
  · have hF := bq_t hc1 hF
    refine lv_ldc2 hx hb hown (hk.wd wd_562 args) dX10_faultOf_7 ?_
    exact m_lret hx hb hr hlocks hH hE hF dX10_faultOf_10

def F_X10_hold (o : Nat) (x1 : Int32) (x2 : Int32) (x3 : Int64) : St (Int64) :=
  bd (dr [9] (some o)) fun q2 => bd (F_X10_faultOf q2.1 x1 x2) fun c1 => br ((lg_cmp c1 (0 : Int64)) = 0) (bd (gR [9] 4 (some o)) fun v4 => bd (dr [0] v4) fun q6 => bd (F_X0_put q6.1 x1 x2 x3) fun c5 => bd (gR [9] 4 (some o)) fun v7 => bd (dr [0] v7) fun q9 => bd (F_X0_get q9.1 x1 x2) fun c8 => rt c8) (rt c1)
set_option maxHeartbeats 4000000 in
set_option maxRecDepth 100000 in
theorem t_X10_hold (l : Launch) (D : va_G) (cy : Nat → ClassId) (z : Nat) (o : Nat) (x1 : Int32) (x2 : Int32) (x3 : Int64) : MT l D cy z yX10_hold cX10_hold 7 (some .long) 2 62 (F_X10_hold o x1 x2 x3) vL [.ref o, .int x1, .int x2, .long x3] := by
  refine m_enter [(0, .ref o), (1, .int x1), (2, .int x2), (3, .long x3)] (by decide) (by first | rfl | simp [lv_args, m_cat, m_ci, m_cl, m_cf, m_cd, m_cr]) (by first | exact Nat.le_of_ble_eq_true rfl | simp [lg_sl, m_cat, m_ci, m_cl, m_cf, m_cd, m_cr]) ?_
  intro p e R s m args below meth c ws0 wsf rr cx hE ws H locs cells slots ls hl hH hF
  obtain ⟨hx, hb, hr, hml, hown, hk, hz, hlocks, hnm, hfr, hlo⟩ := id cx
  unfold F_X10_hold at hF
  refine lv_aload_n hx hb dX10_hold_0 rfl (lv_at hl 0 rfl) ?_
  refine lv_iload_n hx hb dX10_hold_1 rfl (lv_at hl 1 rfl) ?_
  refine lv_iload_n hx hb dX10_hold_2 rfl (lv_at hl 2 rfl) ?_
  refine m_cVL hx hb hml hown hk hH hE.le hz (F := fun q2 => F_X10_faultOf q2.1 x1 x2) (C := RX10) (T := TX10) (N := 7) rfl (As := [.int x1, .int x2]) (rest := []) (fun o => t_X10_faultOf l D cy z o x1 x2) hF wd_727 wd_729 wd_33 wd_730 wd_13 yn_X10_faultOf ⟨Nat.le_trans (by decide) hfr, Nat.le_trans (by decide) hlo⟩ hl.1 (by first | exact Nat.le_of_ble_eq_true rfl | simp [m_cat, m_ci, m_cl, m_cf, m_cd, m_cr]) rfl dX10_hold_3 (fun c1 ws H locs cells slots hH hF => ?_)
  refine lv_lstore (lv' := [(5, .long c1), (0, .ref o), (1, .int x1), (2, .int x2), (3, .long x3)]) hx hb dX10_hold_6 hl (by decide) (by first | rfl | simp [m_cat, m_ci, m_cl, m_cf, m_cd, m_cr]) (fun ls hl => ?_)
  refine lv_lload hx hb dX10_hold_8 (lv_at hl 0 rfl) ?_
  refine lv_lconst (v := (0)) hx hb dX10_hold_10 (by decide) ?_
  refine W.lcmp hx hb dX10_hold_11 ?_
  refine lv_if_eq (tgt := 18) hx hb dX10_hold_12 (by decide) (fun hc2 => ?_) (fun hc2 => ?_)
  · have hF := bq_t hc2 hF
    refine lv_aload_n hx hb dX10_hold_18 rfl (lv_at hl 1 rfl) ?_
    refine m_gR hx hb hown hk hH hF fk_RX10_banks lk_RX10_36 dX10_hold_19 (fun v4 hF => ?_)
    refine lv_iload_n hx hb dX10_hold_22 rfl (lv_at hl 2 rfl) ?_
    refine lv_iload_n hx hb dX10_hold_23 rfl (lv_at hl 3 rfl) ?_
    refine lv_lload_n hx hb dX10_hold_24 rfl (lv_at hl 4 rfl) ?_
    refine m_cVU hx hb hml hown hk hH hE.le hz (F := fun q6 => F_X0_put q6.1 x1 x2 x3) (C := RX0) (T := TX0) (N := 9) rfl (As := [.int x1, .int x2, .long x3]) (rest := []) (fun o => t_X0_put l D cy z o x1 x2 x3) hF wd_738 wd_706 wd_34 wd_708 wd_707 yn_X0_put ⟨Nat.le_trans (by decide) hfr, Nat.le_trans (by decide) hlo⟩ hl.1 (by first | exact Nat.le_of_ble_eq_true rfl | simp [m_cat, m_ci, m_cl, m_cf, m_cd, m_cr]) rfl dX10_hold_25 (fun c5 ws H locs cells slots hH hF => ?_)
    refine lv_aload_n hx hb dX10_hold_28 rfl (lv_at hl 1 rfl) ?_
    refine m_gR hx hb hown hk hH hF fk_RX10_banks lk_RX10_36 dX10_hold_29 (fun v7 hF => ?_)
    refine lv_iload_n hx hb dX10_hold_32 rfl (lv_at hl 2 rfl) ?_
    refine lv_iload_n hx hb dX10_hold_33 rfl (lv_at hl 3 rfl) ?_
    refine m_cVL hx hb hml hown hk hH hE.le hz (F := fun q9 => F_X0_get q9.1 x1 x2) (C := RX0) (T := TX0) (N := 9) rfl (As := [.int x1, .int x2]) (rest := []) (fun o => t_X0_get l D cy z o x1 x2) hF wd_739 wd_740 wd_34 wd_742 wd_741 yn_X0_get ⟨Nat.le_trans (by decide) hfr, Nat.le_trans (by decide) hlo⟩ hl.1 (by first | exact Nat.le_of_ble_eq_true rfl | simp [m_cat, m_ci, m_cl, m_cf, m_cd, m_cr]) rfl dX10_hold_34 (fun c8 ws H locs cells slots hH hF => ?_)
    exact m_lret hx hb hr hlocks hH hE hF dX10_hold_37
  · have hF := bq_f hc2 hF
    refine lv_lload hx hb dX10_hold_15 (lv_at hl 0 rfl) ?_
    exact m_lret hx hb hr hlocks hH hE hF dX10_hold_17

def F_X10_held (o : Nat) (x1 : Int32) (x2 : Int32) : St (Int64) :=
  bd (dr [9] (some o)) fun q2 => bd (F_X10_faultOf q2.1 x1 x2) fun c1 => br ((lg_cmp c1 (0 : Int64)) = 0) (bd (gR [9] 4 (some o)) fun v4 => bd (dr [0] v4) fun q6 => bd (F_X0_get q6.1 x1 x2) fun c5 => rt c5) (rt c1)
set_option maxHeartbeats 4000000 in
set_option maxRecDepth 100000 in
theorem t_X10_held (l : Launch) (D : va_G) (cy : Nat → ClassId) (z : Nat) (o : Nat) (x1 : Int32) (x2 : Int32) : MT l D cy z yX10_held cX10_held 5 (some .long) 2 62 (F_X10_held o x1 x2) vL [.ref o, .int x1, .int x2] := by
  refine m_enter [(0, .ref o), (1, .int x1), (2, .int x2)] (by decide) (by first | rfl | simp [lv_args, m_cat, m_ci, m_cl, m_cf, m_cd, m_cr]) (by first | exact Nat.le_of_ble_eq_true rfl | simp [lg_sl, m_cat, m_ci, m_cl, m_cf, m_cd, m_cr]) ?_
  intro p e R s m args below meth c ws0 wsf rr cx hE ws H locs cells slots ls hl hH hF
  obtain ⟨hx, hb, hr, hml, hown, hk, hz, hlocks, hnm, hfr, hlo⟩ := id cx
  unfold F_X10_held at hF
  refine lv_aload_n hx hb dX10_held_0 rfl (lv_at hl 0 rfl) ?_
  refine lv_iload_n hx hb dX10_held_1 rfl (lv_at hl 1 rfl) ?_
  refine lv_iload_n hx hb dX10_held_2 rfl (lv_at hl 2 rfl) ?_
  refine m_cVL hx hb hml hown hk hH hE.le hz (F := fun q2 => F_X10_faultOf q2.1 x1 x2) (C := RX10) (T := TX10) (N := 7) rfl (As := [.int x1, .int x2]) (rest := []) (fun o => t_X10_faultOf l D cy z o x1 x2) hF wd_727 wd_729 wd_33 wd_730 wd_13 yn_X10_faultOf ⟨Nat.le_trans (by decide) hfr, Nat.le_trans (by decide) hlo⟩ hl.1 (by first | exact Nat.le_of_ble_eq_true rfl | simp [m_cat, m_ci, m_cl, m_cf, m_cd, m_cr]) rfl dX10_held_3 (fun c1 ws H locs cells slots hH hF => ?_)
  refine lv_lstore_n (lv' := [(3, .long c1), (0, .ref o), (1, .int x1), (2, .int x2)]) hx hb dX10_held_6 rfl hl (by decide) (by first | rfl | simp [m_cat, m_ci, m_cl, m_cf, m_cd, m_cr]) (fun ls hl => ?_)
  refine lv_lload_n hx hb dX10_held_7 rfl (lv_at hl 0 rfl) ?_
  refine lv_lconst (v := (0)) hx hb dX10_held_8 (by decide) ?_
  refine W.lcmp hx hb dX10_held_9 ?_
  refine lv_if_eq (tgt := 17) hx hb dX10_held_10 (by decide) (fun hc2 => ?_) (fun hc2 => ?_)
  · have hF := bq_t hc2 hF
    refine lv_aload_n hx hb dX10_held_17 rfl (lv_at hl 1 rfl) ?_
    refine m_gR hx hb hown hk hH hF fk_RX10_banks lk_RX10_36 dX10_held_18 (fun v4 hF => ?_)
    refine lv_iload_n hx hb dX10_held_21 rfl (lv_at hl 2 rfl) ?_
    refine lv_iload_n hx hb dX10_held_22 rfl (lv_at hl 3 rfl) ?_
    refine m_cVL hx hb hml hown hk hH hE.le hz (F := fun q6 => F_X0_get q6.1 x1 x2) (C := RX0) (T := TX0) (N := 9) rfl (As := [.int x1, .int x2]) (rest := []) (fun o => t_X0_get l D cy z o x1 x2) hF wd_739 wd_740 wd_34 wd_742 wd_741 yn_X0_get ⟨Nat.le_trans (by decide) hfr, Nat.le_trans (by decide) hlo⟩ hl.1 (by first | exact Nat.le_of_ble_eq_true rfl | simp [m_cat, m_ci, m_cl, m_cf, m_cd, m_cr]) rfl dX10_held_23 (fun c5 ws H locs cells slots hH hF => ?_)
    exact m_lret hx hb hr hlocks hH hE hF dX10_held_26
  · have hF := bq_f hc2 hF
    refine lv_lload_n hx hb dX10_held_13 rfl (lv_at hl 0 rfl) ?_
    refine lv_goto (tgt := 26) hx hb dX10_held_14 (by decide) ?_
    exact m_lret hx hb hr hlocks hH hE hF dX10_held_26

def j_X10_sensorsWithReadings_25 (rec : Int32 → Int32 → St (Int32)) (k : Int32 → St (Int32)) (x0 : Nat) (x1 : Int32) (x2 : Int32) : St (Int32) :=
  rec x1 (x2 + (1 : Int32))
def b_X10_sensorsWithReadings_4 (x0 : Nat) (rec : Int32 → Int32 → St (Int32)) (k : Int32 → St (Int32)) (x1 : Int32) (x2 : Int32) : St (Int32) :=
  br ((8 : Int32) ≤ x2) (k x1) (bd (gR [9] 0 (some x0)) fun v2 => bd (aR 8 v2 x2) fun v3 => bd (gI [7] 3 v3) fun v4 => br (v4 ≤ 0) (j_X10_sensorsWithReadings_25 rec k x0 x1 x2) (j_X10_sensorsWithReadings_25 rec k x0 (x1 + (1 : Int32)) x2))
def l_X10_sensorsWithReadings_4 (x0 : Nat) (k : Int32 → St (Int32)) : Nat → Int32 → Int32 → St (Int32)
  | 0 => fun _ _ => fl
  | n + 1 => fun x1 x2 => b_X10_sensorsWithReadings_4 x0 (l_X10_sensorsWithReadings_4 x0 k n) k x1 x2
def F_X10_sensorsWithReadings (o : Nat) : St (Int32) :=
  l_X10_sensorsWithReadings_4 o (fun (e6 : Int32) => rt e6) FU (0 : Int32) (0 : Int32)
set_option maxHeartbeats 4000000 in
set_option maxRecDepth 100000 in
theorem w_X10_sensorsWithReadings_25 {l : Launch} {D : va_G} {cy : Nat → ClassId} {z : Nat} {p : Program} {e : Env} {R : Room} {s : State} {m : MethodId} {args : Array Value} {below : List Frame} {meth : Method} {c : Code} {ws0 wsf : WS} {rr : Int32} (cx : Cx D cy z RX10 cX10_sensorsWithReadings 3 (some .int) 0 0 "sensorsWithReadings" p R s m meth c) (hE : AC ws0 wsf R.cells R.slots) (rec : Int32 → Int32 → St (Int32)) (k : Int32 → St (Int32)) (x0 : Nat) (hrec : ∀ (x1 : Int32) (x2 : Int32), At_ l D cy z p e R s m args below meth c ws0 wsf vI rr 3 4 [(0, .ref x0), (1, .int x1), (2, .int x2)] [] (rec x1 x2)) (hkk : ∀ (x1 : Int32), At_ l D cy z p e R s m args below meth c ws0 wsf vI rr 3 31 [(1, .int x1)] [] (k x1)) (x1 : Int32) (x2 : Int32) : At_ l D cy z p e R s m args below meth c ws0 wsf vI rr 3 25 [(0, .ref x0), (1, .int x1), (2, .int x2)] [] (j_X10_sensorsWithReadings_25 rec k x0 x1 x2) := by
  intro ws H locs cells slots ls hl hH hF
  obtain ⟨hx, hb, hr, hml, hown, hk, hz, hlocks, hnm, hfr, hlo⟩ := id cx
  unfold j_X10_sensorsWithReadings_25 at hF
  refine lv_iinc (v := (x2 + (1 : Int32))) (lv' := [(2, .int (x2 + (1 : Int32))), (0, .ref x0), (1, .int x1)]) hx hb dX10_sensorsWithReadings_25 hl (k := 2) rfl (by first | rfl | (congr 1)) (by decide) (by first | rfl | simp [m_cat, m_ci, m_cl, m_cf, m_cd, m_cr]) (fun ls hl => ?_)
  refine lv_goto (tgt := 4) hx hb dX10_sensorsWithReadings_28 (by decide) ?_
  exact hrec _ _ _ _ _ _ _ _ (lv_sub hl [1, 2, 0] rfl) hH hF
set_option maxHeartbeats 4000000 in
set_option maxRecDepth 100000 in
theorem wb_X10_sensorsWithReadings_4 {l : Launch} {D : va_G} {cy : Nat → ClassId} {z : Nat} {p : Program} {e : Env} {R : Room} {s : State} {m : MethodId} {args : Array Value} {below : List Frame} {meth : Method} {c : Code} {ws0 wsf : WS} {rr : Int32} (cx : Cx D cy z RX10 cX10_sensorsWithReadings 3 (some .int) 0 0 "sensorsWithReadings" p R s m meth c) (hE : AC ws0 wsf R.cells R.slots) (x0 : Nat) (rec : Int32 → Int32 → St (Int32)) (k : Int32 → St (Int32)) (hrec : ∀ (x1 : Int32) (x2 : Int32), At_ l D cy z p e R s m args below meth c ws0 wsf vI rr 3 4 [(0, .ref x0), (1, .int x1), (2, .int x2)] [] (rec x1 x2)) (hkk : ∀ (x1 : Int32), At_ l D cy z p e R s m args below meth c ws0 wsf vI rr 3 31 [(1, .int x1)] [] (k x1)) (x1 : Int32) (x2 : Int32) : At_ l D cy z p e R s m args below meth c ws0 wsf vI rr 3 4 [(0, .ref x0), (1, .int x1), (2, .int x2)] [] (b_X10_sensorsWithReadings_4 x0 rec k x1 x2) := by
  intro ws H locs cells slots ls hl hH hF
  obtain ⟨hx, hb, hr, hml, hown, hk, hz, hlocks, hnm, hfr, hlo⟩ := id cx
  unfold b_X10_sensorsWithReadings_4 at hF
  refine lv_iload_n hx hb dX10_sensorsWithReadings_4 rfl (lv_at hl 2 rfl) ?_
  refine lv_bipush (v := (8)) hx hb dX10_sensorsWithReadings_5 (by decide) ?_
  refine lv_icmp_ge (tgt := 31) hx hb dX10_sensorsWithReadings_7 (by decide) (fun hc0 => ?_) (fun hc0 => ?_)
  · have hF := bq_t hc0 hF
    exact hkk _ _ _ _ _ _ _ (lv_sub hl [1] rfl) hH hF
  · have hF := bq_f hc0 hF
    refine lv_aload_n hx hb dX10_sensorsWithReadings_10 rfl (lv_at hl 0 rfl) ?_
    refine m_gR hx hb hown hk hH hF fk_RX10_sensors lk_RX10_11 dX10_sensorsWithReadings_11 (fun v2 hF => ?_)
    refine lv_iload_n hx hb dX10_sensorsWithReadings_14 rfl (lv_at hl 2 rfl) ?_
    refine m_aR (t := 8) hx hb hk hH ⟨by decide, rfl⟩ hF dX10_sensorsWithReadings_15 (fun v3 hF => ?_)
    refine m_gI hx hb hown hk hH hF fk_RX8_size lk_RX10_65 dX10_sensorsWithReadings_16 (fun v4 hF => ?_)
    refine lv_if_le (tgt := 25) hx hb dX10_sensorsWithReadings_19 (by decide) (fun hc4 => ?_) (fun hc4 => ?_)
    · have hF := bq_t hc4 hF
      exact w_X10_sensorsWithReadings_25 cx hE _ _ x0 hrec hkk x1 x2 _ _ _ _ _ _ (lv_sub hl [0, 1, 2] rfl) hH hF
    · have hF := bq_f hc4 hF
      refine lv_iinc (v := (x1 + (1 : Int32))) (lv' := [(1, .int (x1 + (1 : Int32))), (0, .ref x0), (2, .int x2)]) hx hb dX10_sensorsWithReadings_22 hl (k := 1) rfl (by first | rfl | (congr 1)) (by decide) (by first | rfl | simp [m_cat, m_ci, m_cl, m_cf, m_cd, m_cr]) (fun ls hl => ?_)
      exact w_X10_sensorsWithReadings_25 cx hE _ _ x0 hrec hkk (x1 + (1 : Int32)) x2 _ _ _ _ _ _ (lv_sub hl [1, 0, 2] rfl) hH hF
theorem w_X10_sensorsWithReadings_4 {l : Launch} {D : va_G} {cy : Nat → ClassId} {z : Nat} {p : Program} {e : Env} {R : Room} {s : State} {m : MethodId} {args : Array Value} {below : List Frame} {meth : Method} {c : Code} {ws0 wsf : WS} {rr : Int32} (cx : Cx D cy z RX10 cX10_sensorsWithReadings 3 (some .int) 0 0 "sensorsWithReadings" p R s m meth c) (hE : AC ws0 wsf R.cells R.slots) (x0 : Nat) (k : Int32 → St (Int32)) (hkk : ∀ (x1 : Int32), At_ l D cy z p e R s m args below meth c ws0 wsf vI rr 3 31 [(1, .int x1)] [] (k x1)) : ∀ (n : Nat) (x1 : Int32) (x2 : Int32), At_ l D cy z p e R s m args below meth c ws0 wsf vI rr 3 4 [(0, .ref x0), (1, .int x1), (2, .int x2)] [] (l_X10_sensorsWithReadings_4 x0 k n x1 x2) := by
  intro n
  induction n with
  | zero =>
    intro x1 x2 ws H locs cells slots ls hl hH hF
    exact fl_t hF
  | succ n ih =>
    intro x1 x2
    exact wb_X10_sensorsWithReadings_4 cx hE x0 (l_X10_sensorsWithReadings_4 x0 k n) k ih hkk x1 x2
set_option maxHeartbeats 4000000 in
set_option maxRecDepth 100000 in
theorem t_X10_sensorsWithReadings (l : Launch) (D : va_G) (cy : Nat → ClassId) (z : Nat) (o : Nat) : MT l D cy z yX10_sensorsWithReadings cX10_sensorsWithReadings 3 (some .int) 0 0 (F_X10_sensorsWithReadings o) vI [.ref o] := by
  refine m_enter [(0, .ref o)] (by decide) (by first | rfl | simp [lv_args, m_cat, m_ci, m_cl, m_cf, m_cd, m_cr]) (by first | exact Nat.le_of_ble_eq_true rfl | simp [lg_sl, m_cat, m_ci, m_cl, m_cf, m_cd, m_cr]) ?_
  intro p e R s m args below meth c ws0 wsf rr cx hE ws H locs cells slots ls hl hH hF
  obtain ⟨hx, hb, hr, hml, hown, hk, hz, hlocks, hnm, hfr, hlo⟩ := id cx
  unfold F_X10_sensorsWithReadings at hF
  refine lv_iconst (v := (0)) hx hb dX10_sensorsWithReadings_0 (by decide) ?_
  refine lv_istore_n (lv' := [(1, .int (0 : Int32)), (0, .ref o)]) hx hb dX10_sensorsWithReadings_1 rfl hl (by decide) (by first | rfl | simp [m_cat, m_ci, m_cl, m_cf, m_cd, m_cr]) (fun ls hl => ?_)
  refine lv_iconst (v := (0)) hx hb dX10_sensorsWithReadings_2 (by decide) ?_
  refine lv_istore_n (lv' := [(2, .int (0 : Int32)), (1, .int (0 : Int32)), (0, .ref o)]) hx hb dX10_sensorsWithReadings_3 rfl hl (by decide) (by first | rfl | simp [m_cat, m_ci, m_cl, m_cf, m_cd, m_cr]) (fun ls hl => ?_)
  refine w_X10_sensorsWithReadings_4 cx hE o _ (fun e6 ws H locs cells slots ls hl hH hF => ?_) _ _ _ _ _ _ _ _ _ (lv_sub hl [2, 1, 0] rfl) hH hF
  refine lv_iload_n hx hb dX10_sensorsWithReadings_31 rfl (lv_at hl 0 rfl) ?_
  exact m_iret hx hb hr hlocks hH hE hF rfl dX10_sensorsWithReadings_32

def j_X10_tablesMade_21 (rec : Int32 → Int32 → St (Int32)) (k : Int32 → St (Int32)) (x0 : Nat) (x1 : Int32) (x2 : Int32) : St (Int32) :=
  rec x1 (x2 + (1 : Int32))
def b_X10_tablesMade_4 (x0 : Nat) (rec : Int32 → Int32 → St (Int32)) (k : Int32 → St (Int32)) (x1 : Int32) (x2 : Int32) : St (Int32) :=
  br ((4 : Int32) ≤ x2) (k x1) (bd (gR [9] 3 (some x0)) fun v2 => bd (aR 11 v2 x2) fun v3 => br (v3 = none) (j_X10_tablesMade_21 rec k x0 x1 x2) (j_X10_tablesMade_21 rec k x0 (x1 + (1 : Int32)) x2))
def l_X10_tablesMade_4 (x0 : Nat) (k : Int32 → St (Int32)) : Nat → Int32 → Int32 → St (Int32)
  | 0 => fun _ _ => fl
  | n + 1 => fun x1 x2 => b_X10_tablesMade_4 x0 (l_X10_tablesMade_4 x0 k n) k x1 x2
def F_X10_tablesMade (o : Nat) : St (Int32) :=
  l_X10_tablesMade_4 o (fun (e5 : Int32) => rt e5) FU (0 : Int32) (0 : Int32)
set_option maxHeartbeats 4000000 in
set_option maxRecDepth 100000 in
theorem w_X10_tablesMade_21 {l : Launch} {D : va_G} {cy : Nat → ClassId} {z : Nat} {p : Program} {e : Env} {R : Room} {s : State} {m : MethodId} {args : Array Value} {below : List Frame} {meth : Method} {c : Code} {ws0 wsf : WS} {rr : Int32} (cx : Cx D cy z RX10 cX10_tablesMade 3 (some .int) 0 0 "tablesMade" p R s m meth c) (hE : AC ws0 wsf R.cells R.slots) (rec : Int32 → Int32 → St (Int32)) (k : Int32 → St (Int32)) (x0 : Nat) (hrec : ∀ (x1 : Int32) (x2 : Int32), At_ l D cy z p e R s m args below meth c ws0 wsf vI rr 3 4 [(0, .ref x0), (1, .int x1), (2, .int x2)] [] (rec x1 x2)) (hkk : ∀ (x1 : Int32), At_ l D cy z p e R s m args below meth c ws0 wsf vI rr 3 27 [(1, .int x1)] [] (k x1)) (x1 : Int32) (x2 : Int32) : At_ l D cy z p e R s m args below meth c ws0 wsf vI rr 3 21 [(0, .ref x0), (1, .int x1), (2, .int x2)] [] (j_X10_tablesMade_21 rec k x0 x1 x2) := by
  intro ws H locs cells slots ls hl hH hF
  obtain ⟨hx, hb, hr, hml, hown, hk, hz, hlocks, hnm, hfr, hlo⟩ := id cx
  unfold j_X10_tablesMade_21 at hF
  refine lv_iinc (v := (x2 + (1 : Int32))) (lv' := [(2, .int (x2 + (1 : Int32))), (0, .ref x0), (1, .int x1)]) hx hb dX10_tablesMade_21 hl (k := 2) rfl (by first | rfl | (congr 1)) (by decide) (by first | rfl | simp [m_cat, m_ci, m_cl, m_cf, m_cd, m_cr]) (fun ls hl => ?_)
  refine lv_goto (tgt := 4) hx hb dX10_tablesMade_24 (by decide) ?_
  exact hrec _ _ _ _ _ _ _ _ (lv_sub hl [1, 2, 0] rfl) hH hF
set_option maxHeartbeats 4000000 in
set_option maxRecDepth 100000 in
theorem wb_X10_tablesMade_4 {l : Launch} {D : va_G} {cy : Nat → ClassId} {z : Nat} {p : Program} {e : Env} {R : Room} {s : State} {m : MethodId} {args : Array Value} {below : List Frame} {meth : Method} {c : Code} {ws0 wsf : WS} {rr : Int32} (cx : Cx D cy z RX10 cX10_tablesMade 3 (some .int) 0 0 "tablesMade" p R s m meth c) (hE : AC ws0 wsf R.cells R.slots) (x0 : Nat) (rec : Int32 → Int32 → St (Int32)) (k : Int32 → St (Int32)) (hrec : ∀ (x1 : Int32) (x2 : Int32), At_ l D cy z p e R s m args below meth c ws0 wsf vI rr 3 4 [(0, .ref x0), (1, .int x1), (2, .int x2)] [] (rec x1 x2)) (hkk : ∀ (x1 : Int32), At_ l D cy z p e R s m args below meth c ws0 wsf vI rr 3 27 [(1, .int x1)] [] (k x1)) (x1 : Int32) (x2 : Int32) : At_ l D cy z p e R s m args below meth c ws0 wsf vI rr 3 4 [(0, .ref x0), (1, .int x1), (2, .int x2)] [] (b_X10_tablesMade_4 x0 rec k x1 x2) := by
  intro ws H locs cells slots ls hl hH hF
  obtain ⟨hx, hb, hr, hml, hown, hk, hz, hlocks, hnm, hfr, hlo⟩ := id cx
  unfold b_X10_tablesMade_4 at hF
  refine lv_iload_n hx hb dX10_tablesMade_4 rfl (lv_at hl 2 rfl) ?_
  refine lv_iconst (v := (4)) hx hb dX10_tablesMade_5 (by decide) ?_
  refine lv_icmp_ge (tgt := 27) hx hb dX10_tablesMade_6 (by decide) (fun hc0 => ?_) (fun hc0 => ?_)
  · have hF := bq_t hc0 hF
    exact hkk _ _ _ _ _ _ _ (lv_sub hl [1] rfl) hH hF
  · have hF := bq_f hc0 hF
    refine lv_aload_n hx hb dX10_tablesMade_9 rfl (lv_at hl 0 rfl) ?_
    refine m_gR hx hb hown hk hH hF fk_RX10_tables lk_RX10_29 dX10_tablesMade_10 (fun v2 hF => ?_)
    refine lv_iload_n hx hb dX10_tablesMade_13 rfl (lv_at hl 2 rfl) ?_
    refine m_aR (t := 11) hx hb hk hH ⟨by decide, rfl⟩ hF dX10_tablesMade_14 (fun v3 hF => ?_)
    refine m_ifnull (tgt := 21) hx hb dX10_tablesMade_15 (by decide) (fun hc3 => ?_) (fun hc3 => ?_)
    · have hF := bq_t hc3 hF
      exact w_X10_tablesMade_21 cx hE _ _ x0 hrec hkk x1 x2 _ _ _ _ _ _ (lv_sub hl [0, 1, 2] rfl) hH hF
    · have hF := bq_f hc3 hF
      refine lv_iinc (v := (x1 + (1 : Int32))) (lv' := [(1, .int (x1 + (1 : Int32))), (0, .ref x0), (2, .int x2)]) hx hb dX10_tablesMade_18 hl (k := 1) rfl (by first | rfl | (congr 1)) (by decide) (by first | rfl | simp [m_cat, m_ci, m_cl, m_cf, m_cd, m_cr]) (fun ls hl => ?_)
      exact w_X10_tablesMade_21 cx hE _ _ x0 hrec hkk (x1 + (1 : Int32)) x2 _ _ _ _ _ _ (lv_sub hl [1, 0, 2] rfl) hH hF
theorem w_X10_tablesMade_4 {l : Launch} {D : va_G} {cy : Nat → ClassId} {z : Nat} {p : Program} {e : Env} {R : Room} {s : State} {m : MethodId} {args : Array Value} {below : List Frame} {meth : Method} {c : Code} {ws0 wsf : WS} {rr : Int32} (cx : Cx D cy z RX10 cX10_tablesMade 3 (some .int) 0 0 "tablesMade" p R s m meth c) (hE : AC ws0 wsf R.cells R.slots) (x0 : Nat) (k : Int32 → St (Int32)) (hkk : ∀ (x1 : Int32), At_ l D cy z p e R s m args below meth c ws0 wsf vI rr 3 27 [(1, .int x1)] [] (k x1)) : ∀ (n : Nat) (x1 : Int32) (x2 : Int32), At_ l D cy z p e R s m args below meth c ws0 wsf vI rr 3 4 [(0, .ref x0), (1, .int x1), (2, .int x2)] [] (l_X10_tablesMade_4 x0 k n x1 x2) := by
  intro n
  induction n with
  | zero =>
    intro x1 x2 ws H locs cells slots ls hl hH hF
    exact fl_t hF
  | succ n ih =>
    intro x1 x2
    exact wb_X10_tablesMade_4 cx hE x0 (l_X10_tablesMade_4 x0 k n) k ih hkk x1 x2
set_option maxHeartbeats 4000000 in
set_option maxRecDepth 100000 in
theorem t_X10_tablesMade (l : Launch) (D : va_G) (cy : Nat → ClassId) (z : Nat) (o : Nat) : MT l D cy z yX10_tablesMade cX10_tablesMade 3 (some .int) 0 0 (F_X10_tablesMade o) vI [.ref o] := by
  refine m_enter [(0, .ref o)] (by decide) (by first | rfl | simp [lv_args, m_cat, m_ci, m_cl, m_cf, m_cd, m_cr]) (by first | exact Nat.le_of_ble_eq_true rfl | simp [lg_sl, m_cat, m_ci, m_cl, m_cf, m_cd, m_cr]) ?_
  intro p e R s m args below meth c ws0 wsf rr cx hE ws H locs cells slots ls hl hH hF
  obtain ⟨hx, hb, hr, hml, hown, hk, hz, hlocks, hnm, hfr, hlo⟩ := id cx
  unfold F_X10_tablesMade at hF
  refine lv_iconst (v := (0)) hx hb dX10_tablesMade_0 (by decide) ?_
  refine lv_istore_n (lv' := [(1, .int (0 : Int32)), (0, .ref o)]) hx hb dX10_tablesMade_1 rfl hl (by decide) (by first | rfl | simp [m_cat, m_ci, m_cl, m_cf, m_cd, m_cr]) (fun ls hl => ?_)
  refine lv_iconst (v := (0)) hx hb dX10_tablesMade_2 (by decide) ?_
  refine lv_istore_n (lv' := [(2, .int (0 : Int32)), (1, .int (0 : Int32)), (0, .ref o)]) hx hb dX10_tablesMade_3 rfl hl (by decide) (by first | rfl | simp [m_cat, m_ci, m_cl, m_cf, m_cd, m_cr]) (fun ls hl => ?_)
  refine w_X10_tablesMade_4 cx hE o _ (fun e5 ws H locs cells slots ls hl hH hF => ?_) _ _ _ _ _ _ _ _ _ (lv_sub hl [2, 1, 0] rfl) hH hF
  refine lv_iload_n hx hb dX10_tablesMade_27 rfl (lv_at hl 0 rfl) ?_
  exact m_iret hx hb hr hlocks hH hE hF rfl dX10_tablesMade_28

def F_X10_count (o : Nat) (x1 : Int32) : St (Int32) :=
  bd (rt x1) fun w1 => br (w1 = (0)) (bd (gI [9] 6 (some o)) fun v2 => rt v2) (br (w1 = (1)) (bd (gR [9] 5 (some o)) fun v3 => bd (gI [2] 2 v3) fun v4 => rt v4) (br (w1 = (2)) (bd (dr [9] (some o)) fun q6 => bd (F_X10_sensorsWithReadings q6.1) fun c5 => rt c5) (br (w1 = (3)) (bd (dr [9] (some o)) fun q8 => bd (F_X10_tablesMade q8.1) fun c7 => rt c7) (br (w1 = (4)) (bd (gR [9] 4 (some o)) fun v9 => bd (dr [0] v9) fun q11 => bd (F_X0_opened q11.1) fun c10 => rt c10) (rt (-2 : Int32))))))
set_option maxHeartbeats 4000000 in
set_option maxRecDepth 100000 in
theorem t_X10_count (l : Launch) (D : va_G) (cy : Nat → ClassId) (z : Nat) (o : Nat) (x1 : Int32) : MT l D cy z yX10_count cX10_count 2 (some .int) 2 62 (F_X10_count o x1) vI [.ref o, .int x1] := by
  refine m_enter [(0, .ref o), (1, .int x1)] (by decide) (by first | rfl | simp [lv_args, m_cat, m_ci, m_cl, m_cf, m_cd, m_cr]) (by first | exact Nat.le_of_ble_eq_true rfl | simp [lg_sl, m_cat, m_ci, m_cl, m_cf, m_cd, m_cr]) ?_
  intro p e R s m args below meth c ws0 wsf rr cx hE ws H locs cells slots ls hl hH hF
  obtain ⟨hx, hb, hr, hml, hown, hk, hz, hlocks, hnm, hfr, hlo⟩ := id cx
  unfold F_X10_count at hF
  refine lv_iload_n hx hb dX10_count_0 rfl (lv_at hl 1 rfl) ?_
  refine lv_topi (fun w1 hw1 => ?_)
  have hF := rt_t hw1 hF
  by_cases hkw1_0 : w1 = (0)
  · have hF := bq_t hkw1_0 hF
    refine lv_tableIn (off := 35) (tgt := 36) hx hb dX10_count_1 (by rw [hkw1_0]; decide) (by rw [hkw1_0]; decide) (by rw [hkw1_0]; decide) (by decide) ?_
    refine lv_aload_n hx hb dX10_count_36 rfl (lv_at hl 0 rfl) ?_
    refine m_gI hx hb hown hk hH hF fk_RX10_curveCount lk_RX10_47 dX10_count_37 (fun v2 hF => ?_)
    exact m_iret hx hb hr hlocks hH hE hF rfl dX10_count_40
  · have hF := bq_f hkw1_0 hF
    by_cases hkw1_1 : w1 = (1)
    · have hF := bq_t hkw1_1 hF
      refine lv_tableIn (off := 40) (tgt := 41) hx hb dX10_count_1 (by rw [hkw1_1]; decide) (by rw [hkw1_1]; decide) (by rw [hkw1_1]; decide) (by decide) ?_
      refine lv_aload_n hx hb dX10_count_41 rfl (lv_at hl 0 rfl) ?_
      refine m_gR hx hb hown hk hH hF fk_RX10_told lk_RX10_43 dX10_count_42 (fun v3 hF => ?_)
      refine m_gI hx hb hown hk hH hF fk_RX3_size lk_RX10_98 dX10_count_45 (fun v4 hF => ?_)
      exact m_iret hx hb hr hlocks hH hE hF rfl dX10_count_48
    · have hF := bq_f hkw1_1 hF
      by_cases hkw1_2 : w1 = (2)
      · have hF := bq_t hkw1_2 hF
        refine lv_tableIn (off := 48) (tgt := 49) hx hb dX10_count_1 (by rw [hkw1_2]; decide) (by rw [hkw1_2]; decide) (by rw [hkw1_2]; decide) (by decide) ?_
        refine lv_aload_n hx hb dX10_count_49 rfl (lv_at hl 0 rfl) ?_
        refine m_cVI hx hb hml hown hk hH hE.le hz (F := fun q6 => F_X10_sensorsWithReadings q6.1) (C := RX10) (T := TX10) (N := 7) rfl (As := []) (rest := []) (fun o => t_X10_sensorsWithReadings l D cy z o) hF wd_753 wd_755 wd_33 wd_756 wd_14 yn_X10_sensorsWithReadings ⟨Nat.le_trans (by decide) hfr, Nat.le_trans (by decide) hlo⟩ hl.1 (by first | exact Nat.le_of_ble_eq_true rfl | simp [m_cat, m_ci, m_cl, m_cf, m_cd, m_cr]) rfl dX10_count_50 (fun c5 ws H locs cells slots hH hF => ?_)
        exact m_iret hx hb hr hlocks hH hE hF rfl dX10_count_53
      · have hF := bq_f hkw1_2 hF
        by_cases hkw1_3 : w1 = (3)
        · have hF := bq_t hkw1_3 hF
          refine lv_tableIn (off := 53) (tgt := 54) hx hb dX10_count_1 (by rw [hkw1_3]; decide) (by rw [hkw1_3]; decide) (by rw [hkw1_3]; decide) (by decide) ?_
          refine lv_aload_n hx hb dX10_count_54 rfl (lv_at hl 0 rfl) ?_
          refine m_cVI hx hb hml hown hk hH hE.le hz (F := fun q8 => F_X10_tablesMade q8.1) (C := RX10) (T := TX10) (N := 7) rfl (As := []) (rest := []) (fun o => t_X10_tablesMade l D cy z o) hF wd_757 wd_759 wd_33 wd_760 wd_15 yn_X10_tablesMade ⟨Nat.le_trans (by decide) hfr, Nat.le_trans (by decide) hlo⟩ hl.1 (by first | exact Nat.le_of_ble_eq_true rfl | simp [m_cat, m_ci, m_cl, m_cf, m_cd, m_cr]) rfl dX10_count_55 (fun c7 ws H locs cells slots hH hF => ?_)
          exact m_iret hx hb hr hlocks hH hE hF rfl dX10_count_58
        · have hF := bq_f hkw1_3 hF
          by_cases hkw1_4 : w1 = (4)
          · have hF := bq_t hkw1_4 hF
            refine lv_tableIn (off := 58) (tgt := 59) hx hb dX10_count_1 (by rw [hkw1_4]; decide) (by rw [hkw1_4]; decide) (by rw [hkw1_4]; decide) (by decide) ?_
            refine lv_aload_n hx hb dX10_count_59 rfl (lv_at hl 0 rfl) ?_
            refine m_gR hx hb hown hk hH hF fk_RX10_banks lk_RX10_36 dX10_count_60 (fun v9 hF => ?_)
            refine m_cVI hx hb hml hown hk hH hE.le hz (F := fun q11 => F_X0_opened q11.1) (C := RX0) (T := TX0) (N := 9) rfl (As := []) (rest := []) (fun o => t_X0_opened l D cy z o) hF wd_761 wd_762 wd_34 wd_764 wd_763 yn_X0_opened ⟨Nat.le_trans (by decide) hfr, Nat.le_trans (by decide) hlo⟩ hl.1 (by first | exact Nat.le_of_ble_eq_true rfl | simp [m_cat, m_ci, m_cl, m_cf, m_cd, m_cr]) rfl dX10_count_63 (fun c10 ws H locs cells slots hH hF => ?_)
            exact m_iret hx hb hr hlocks hH hE hF rfl dX10_count_66
          · have hF := bq_f hkw1_4 hF
            refine lv_tableOut (tgt := 67) hx hb dX10_count_1 (by have g0 := lv_neT hkw1_0 (a := 0) (by decide); have g1 := lv_neT hkw1_1 (a := 1) (by decide); have g2 := lv_neT hkw1_2 (a := 2) (by decide); have g3 := lv_neT hkw1_3 (a := 3) (by decide); have g4 := lv_neT hkw1_4 (a := 4) (by decide); omega) (by decide) ?_
            refine lv_bipush (v := (-2)) hx hb dX10_count_67 (by decide) ?_
            exact m_iret hx hb hr hlocks hH hE hF rfl dX10_count_69
