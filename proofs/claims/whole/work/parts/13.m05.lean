def b_X11_feed_20 (x0 : Nat) (x1 : Int32) (x2 : Int32) (rec : Int32 → St (Int32)) (k : St (Int32)) (x3 : Int32) : St (Int32) :=
  br (x3 ≤ 0) (k) (bd (gR [10] 15 (some x0)) fun v6 => bd (gR [10] 15 (some x0)) fun v7 => bd (aI 0 v7 ((((9 : Int32) * x1) + x3) - (1 : Int32))) fun v8 => bd (sI 0 v6 (((9 : Int32) * x1) + x3) v8) fun _ => rec (x3 + (-1 : Int32)))
def l_X11_feed_20 (x0 : Nat) (x1 : Int32) (x2 : Int32) (k : St (Int32)) : Nat → Int32 → St (Int32)
  | 0 => fun _ => fl
  | n + 1 => fun x3 => b_X11_feed_20 x0 x1 x2 (l_X11_feed_20 x0 x1 x2 k n) k x3
def j_X11_feed_93 (x0 : Nat) (x1 : Int32) (s0 : Option Nat) (s1 : Int32) (s2 : Int32) : St (Int32) :=
  bd (sI 0 s0 s1 s2) fun _ => bd (gR [10] 16 (some x0)) fun v14 => bd (dr [10] (some x0)) fun q16 => bd (F_X11_filtered q16.1 x1) fun c15 => bd (sI 0 v14 x1 c15) fun _ => bd (gR [10] 16 (some x0)) fun v17 => bd (aI 0 v17 x1) fun v18 => rt v18
def F_X11_feed (o : Nat) (x1 : Int32) (x2 : Int32) : St (Int32) :=
  bd (F_X11_isFour x1) fun c1 => br (c1 = 0) (rt (-2 : Int32)) (bd (F_X11_isCount x2) fun c3 => br (c3 = 0) (rt (-2 : Int32)) (l_X11_feed_20 o x1 x2 (bd (gR [10] 15 (some o)) fun v9 => bd (sI 0 v9 ((9 : Int32) * x1) x2) fun _ => bd (gR [10] 14 (some o)) fun v10 => bd (gR [10] 14 (some o)) fun v11 => bd (aI 0 v11 x1) fun v12 => br ((9 : Int32) ≤ v12) (j_X11_feed_93 o x1 v10 x1 (9 : Int32)) (bd (gR [10] 14 (some o)) fun v19 => bd (aI 0 v19 x1) fun v20 => j_X11_feed_93 o x1 v10 x1 (v20 + (1 : Int32)))) FU (8 : Int32)))
set_option maxHeartbeats 4000000 in
set_option maxRecDepth 100000 in
theorem wb_X11_feed_20 {l : Launch} {D : va_G} {cy : Nat → ClassId} {z : Nat} {p : Program} {e : Env} {R : Room} {s : State} {m : MethodId} {args : Array Value} {below : List Frame} {meth : Method} {c : Code} {ws0 wsf : WS} {rr : Int32} (cx : Cx D cy z RX11 cX11_feed 4 (some .int) 3 95 "feed" p R s m meth c) (hE : AC ws0 wsf R.cells R.slots) (x0 : Nat) (x1 : Int32) (x2 : Int32) (rec : Int32 → St (Int32)) (k : St (Int32)) (hrec : ∀ (x3 : Int32), At_ l D cy z p e R s m args below meth c ws0 wsf vI rr 4 20 [(0, .ref x0), (1, .int x1), (2, .int x2), (3, .int x3)] [] (rec x3)) (hkk : At_ l D cy z p e R s m args below meth c ws0 wsf vI rr 4 54 [(0, .ref x0), (1, .int x1), (2, .int x2)] [] (k)) (x3 : Int32) : At_ l D cy z p e R s m args below meth c ws0 wsf vI rr 4 20 [(0, .ref x0), (1, .int x1), (2, .int x2), (3, .int x3)] [] (b_X11_feed_20 x0 x1 x2 rec k x3) := by
  intro ws H locs cells slots ls hl hH hF
  obtain ⟨hx, hb, hr, hml, hown, hk, hz, hlocks, hnm, hfr, hlo⟩ := id cx
  unfold b_X11_feed_20 at hF
  refine lv_iload_n hx hb dX11_feed_20 rfl (lv_at hl 3 rfl) ?_
  refine lv_if_le (tgt := 54) hx hb dX11_feed_21 (by decide) (fun hc4 => ?_) (fun hc4 => ?_)
  · have hF := bq_t hc4 hF
    exact hkk _ _ _ _ _ _ (lv_sub hl [0, 1, 2] rfl) hH hF
  · have hF := bq_f hc4 hF
    refine lv_aload_n hx hb dX11_feed_24 rfl (lv_at hl 0 rfl) ?_
    refine m_gR hx hb hown hk hH hF fk_RX11_latest lk_RX11_50 dX11_feed_25 (fun v6 hF => ?_)
    refine lv_bipush (v := (9)) hx hb dX11_feed_28 (by decide) ?_
    refine lv_iload_n hx hb dX11_feed_30 rfl (lv_at hl 1 rfl) ?_
    refine lv_imul hx hb dX11_feed_31 ?_
    refine lv_iload_n hx hb dX11_feed_32 rfl (lv_at hl 3 rfl) ?_
    refine lv_iadd hx hb dX11_feed_33 ?_
    refine lv_aload_n hx hb dX11_feed_34 rfl (lv_at hl 0 rfl) ?_
    refine m_gR hx hb hown hk hH hF fk_RX11_latest lk_RX11_50 dX11_feed_35 (fun v7 hF => ?_)
    refine lv_bipush (v := (9)) hx hb dX11_feed_38 (by decide) ?_
    refine lv_iload_n hx hb dX11_feed_40 rfl (lv_at hl 1 rfl) ?_
    refine lv_imul hx hb dX11_feed_41 ?_
    refine lv_iload_n hx hb dX11_feed_42 rfl (lv_at hl 3 rfl) ?_
    refine lv_iadd hx hb dX11_feed_43 ?_
    refine lv_iconst (v := (1)) hx hb dX11_feed_44 (by decide) ?_
    refine lv_isub hx hb dX11_feed_45 ?_
    refine m_aI0 hx hb hk hH hF dX11_feed_46 (fun v8 hF => ?_)
    refine m_sI0 hx hb hk hH hF dX11_feed_47 (fun ws H locs hH hF => ?_)
    refine lv_iinc (v := (x3 + (-1 : Int32))) (lv' := [(3, .int (x3 + (-1 : Int32))), (0, .ref x0), (1, .int x1), (2, .int x2)]) hx hb dX11_feed_48 hl (k := 3) rfl (by first | rfl | (congr 1)) (by decide) (by first | rfl | simp [m_cat, m_ci, m_cl, m_cf, m_cd, m_cr]) (fun ls hl => ?_)
    refine lv_goto (tgt := 20) hx hb dX11_feed_51 (by decide) ?_
    exact hrec _ _ _ _ _ _ _ (lv_sub hl [1, 2, 3, 0] rfl) hH hF
theorem w_X11_feed_20 {l : Launch} {D : va_G} {cy : Nat → ClassId} {z : Nat} {p : Program} {e : Env} {R : Room} {s : State} {m : MethodId} {args : Array Value} {below : List Frame} {meth : Method} {c : Code} {ws0 wsf : WS} {rr : Int32} (cx : Cx D cy z RX11 cX11_feed 4 (some .int) 3 95 "feed" p R s m meth c) (hE : AC ws0 wsf R.cells R.slots) (x0 : Nat) (x1 : Int32) (x2 : Int32) (k : St (Int32)) (hkk : At_ l D cy z p e R s m args below meth c ws0 wsf vI rr 4 54 [(0, .ref x0), (1, .int x1), (2, .int x2)] [] (k)) : ∀ (n : Nat) (x3 : Int32), At_ l D cy z p e R s m args below meth c ws0 wsf vI rr 4 20 [(0, .ref x0), (1, .int x1), (2, .int x2), (3, .int x3)] [] (l_X11_feed_20 x0 x1 x2 k n x3) := by
  intro n
  induction n with
  | zero =>
    intro x3 ws H locs cells slots ls hl hH hF
    exact fl_t hF
  | succ n ih =>
    intro x3
    exact wb_X11_feed_20 cx hE x0 x1 x2 (l_X11_feed_20 x0 x1 x2 k n) k ih hkk x3
set_option maxHeartbeats 4000000 in
set_option maxRecDepth 100000 in
theorem w_X11_feed_93 {l : Launch} {D : va_G} {cy : Nat → ClassId} {z : Nat} {p : Program} {e : Env} {R : Room} {s : State} {m : MethodId} {args : Array Value} {below : List Frame} {meth : Method} {c : Code} {ws0 wsf : WS} {rr : Int32} (cx : Cx D cy z RX11 cX11_feed 4 (some .int) 3 95 "feed" p R s m meth c) (hE : AC ws0 wsf R.cells R.slots) (x0 : Nat) (x1 : Int32) (s0 : Option Nat) (s1 : Int32) (s2 : Int32) : At_ l D cy z p e R s m args below meth c ws0 wsf vI rr 4 93 [(0, .ref x0), (1, .int x1)] [.int s2, .int s1, va_rf s0] (j_X11_feed_93 x0 x1 s0 s1 s2) := by
  intro ws H locs cells slots ls hl hH hF
  obtain ⟨hx, hb, hr, hml, hown, hk, hz, hlocks, hnm, hfr, hlo⟩ := id cx
  unfold j_X11_feed_93 at hF
  refine m_sI0 hx hb hk hH hF dX11_feed_93 (fun ws H locs hH hF => ?_)
  refine lv_aload_n hx hb dX11_feed_94 rfl (lv_at hl 0 rfl) ?_
  refine m_gR hx hb hown hk hH hF fk_RX11_given lk_RX11_53 dX11_feed_95 (fun v14 hF => ?_)
  refine lv_iload_n hx hb dX11_feed_98 rfl (lv_at hl 1 rfl) ?_
  refine lv_aload_n hx hb dX11_feed_99 rfl (lv_at hl 0 rfl) ?_
  refine lv_iload_n hx hb dX11_feed_100 rfl (lv_at hl 1 rfl) ?_
  refine m_cVI hx hb hml hown hk hH hE.le hz (F := fun q16 => F_X11_filtered q16.1 x1) (C := RX11) (T := TX11) (N := 22) rfl (As := [.int x1]) (rest := [.int x1, va_rf v14]) (fun o => t_X11_filtered l D cy z o x1) hF wd_999 wd_1001 wd_38 wd_1002 wd_27 yn_X11_filtered ⟨Nat.le_trans (by decide) hfr, Nat.le_trans (by decide) hlo⟩ hl.1 (by first | exact Nat.le_of_ble_eq_true rfl | simp [m_cat, m_ci, m_cl, m_cf, m_cd, m_cr]) rfl dX11_feed_101 (fun c15 ws H locs cells slots hH hF => ?_)
  refine m_sI0 hx hb hk hH hF dX11_feed_104 (fun ws H locs hH hF => ?_)
  refine lv_aload_n hx hb dX11_feed_105 rfl (lv_at hl 0 rfl) ?_
  refine m_gR hx hb hown hk hH hF fk_RX11_given lk_RX11_53 dX11_feed_106 (fun v17 hF => ?_)
  refine lv_iload_n hx hb dX11_feed_109 rfl (lv_at hl 1 rfl) ?_
  refine m_aI0 hx hb hk hH hF dX11_feed_110 (fun v18 hF => ?_)
  exact m_iret hx hb hr hlocks hH hE hF rfl dX11_feed_111
set_option maxHeartbeats 4000000 in
set_option maxRecDepth 100000 in
theorem t_X11_feed (l : Launch) (D : va_G) (cy : Nat → ClassId) (z : Nat) (o : Nat) (x1 : Int32) (x2 : Int32) : MT l D cy z yX11_feed cX11_feed 4 (some .int) 3 95 (F_X11_feed o x1 x2) vI [.ref o, .int x1, .int x2] := by
  refine m_enter [(0, .ref o), (1, .int x1), (2, .int x2)] (by decide) (by first | rfl | simp [lv_args, m_cat, m_ci, m_cl, m_cf, m_cd, m_cr]) (by first | exact Nat.le_of_ble_eq_true rfl | simp [lg_sl, m_cat, m_ci, m_cl, m_cf, m_cd, m_cr]) ?_
  intro p e R s m args below meth c ws0 wsf rr cx hE ws H locs cells slots ls hl hH hF
  obtain ⟨hx, hb, hr, hml, hown, hk, hz, hlocks, hnm, hfr, hlo⟩ := id cx
  unfold F_X11_feed at hF
  refine lv_iload_n hx hb dX11_feed_0 rfl (lv_at hl 1 rfl) ?_
  refine m_cSI hx hb hml hown hk hH hE.le hz (As := [.int x1]) (rest := []) (t_X11_isFour l D cy z x1) hF wd_992 wd_993 wd_38 wd_994 yn_X11_isFour ⟨Nat.le_trans (by decide) hfr, Nat.le_trans (by decide) hlo⟩ hl.1 (by first | exact Nat.le_of_ble_eq_true rfl | simp [m_cat, m_ci, m_cl, m_cf, m_cd, m_cr]) rfl dX11_feed_1 (fun c1 ws H locs cells slots hH hF => ?_)
  refine lv_if_eq (tgt := 14) hx hb dX11_feed_4 (by decide) (fun hc1 => ?_) (fun hc1 => ?_)
  · have hF := bq_t hc1 hF
    refine lv_bipush (v := (-2)) hx hb dX11_feed_14 (by decide) ?_
    exact m_iret hx hb hr hlocks hH hE hF rfl dX11_feed_16
  · have hF := bq_f hc1 hF
    refine lv_iload_n hx hb dX11_feed_7 rfl (lv_at hl 2 rfl) ?_
    refine m_cSI hx hb hml hown hk hH hE.le hz (As := [.int x2]) (rest := []) (t_X11_isCount l D cy z x2) hF wd_846 wd_847 wd_38 wd_848 yn_X11_isCount ⟨Nat.le_trans (by decide) hfr, Nat.le_trans (by decide) hlo⟩ hl.1 (by first | exact Nat.le_of_ble_eq_true rfl | simp [m_cat, m_ci, m_cl, m_cf, m_cd, m_cr]) rfl dX11_feed_8 (fun c3 ws H locs cells slots hH hF => ?_)
    refine lv_if_ne (tgt := 17) hx hb dX11_feed_11 (by decide) (fun hc3 => ?_) (fun hc3 => ?_)
    · have hF := bq_f hc3 hF
      refine lv_bipush (v := (8)) hx hb dX11_feed_17 (by decide) ?_
      refine lv_istore_n (lv' := [(3, .int (8 : Int32)), (0, .ref o), (1, .int x1), (2, .int x2)]) hx hb dX11_feed_19 rfl hl (by decide) (by first | rfl | simp [m_cat, m_ci, m_cl, m_cf, m_cd, m_cr]) (fun ls hl => ?_)
      refine w_X11_feed_20 cx hE o x1 x2 _ (fun ws H locs cells slots ls hl hH hF => ?_) _ _ _ _ _ _ _ _ (lv_sub hl [1, 2, 3, 0] rfl) hH hF
      refine lv_aload_n hx hb dX11_feed_54 rfl (lv_at hl 0 rfl) ?_
      refine m_gR hx hb hown hk hH hF fk_RX11_latest lk_RX11_50 dX11_feed_55 (fun v9 hF => ?_)
      refine lv_bipush (v := (9)) hx hb dX11_feed_58 (by decide) ?_
      refine lv_iload_n hx hb dX11_feed_60 rfl (lv_at hl 1 rfl) ?_
      refine lv_imul hx hb dX11_feed_61 ?_
      refine lv_iload_n hx hb dX11_feed_62 rfl (lv_at hl 2 rfl) ?_
      refine m_sI0 hx hb hk hH hF dX11_feed_63 (fun ws H locs hH hF => ?_)
      refine lv_aload_n hx hb dX11_feed_64 rfl (lv_at hl 0 rfl) ?_
      refine m_gR hx hb hown hk hH hF fk_RX11_fed lk_RX11_47 dX11_feed_65 (fun v10 hF => ?_)
      refine lv_iload_n hx hb dX11_feed_68 rfl (lv_at hl 1 rfl) ?_
      refine lv_aload_n hx hb dX11_feed_69 rfl (lv_at hl 0 rfl) ?_
      refine m_gR hx hb hown hk hH hF fk_RX11_fed lk_RX11_47 dX11_feed_70 (fun v11 hF => ?_)
      refine lv_iload_n hx hb dX11_feed_73 rfl (lv_at hl 1 rfl) ?_
      refine m_aI0 hx hb hk hH hF dX11_feed_74 (fun v12 hF => ?_)
      refine lv_bipush (v := (9)) hx hb dX11_feed_75 (by decide) ?_
      refine lv_icmp_ge (tgt := 91) hx hb dX11_feed_77 (by decide) (fun hc12 => ?_) (fun hc12 => ?_)
      · have hF := bq_t hc12 hF
        refine lv_bipush (v := (9)) hx hb dX11_feed_91 (by decide) ?_
        exact w_X11_feed_93 cx hE o x1 v10 x1 (9 : Int32) _ _ _ _ _ _ (lv_sub hl [0, 1] rfl) hH hF
      · have hF := bq_f hc12 hF
        refine lv_aload_n hx hb dX11_feed_80 rfl (lv_at hl 0 rfl) ?_
        refine m_gR hx hb hown hk hH hF fk_RX11_fed lk_RX11_47 dX11_feed_81 (fun v19 hF => ?_)
        refine lv_iload_n hx hb dX11_feed_84 rfl (lv_at hl 1 rfl) ?_
        refine m_aI0 hx hb hk hH hF dX11_feed_85 (fun v20 hF => ?_)
        refine lv_iconst (v := (1)) hx hb dX11_feed_86 (by decide) ?_
        refine lv_iadd hx hb dX11_feed_87 ?_
        refine lv_goto (tgt := 93) hx hb dX11_feed_88 (by decide) ?_
        exact w_X11_feed_93 cx hE o x1 v10 x1 (v20 + (1 : Int32)) _ _ _ _ _ _ (lv_sub hl [0, 1] rfl) hH hF
    · have hF := bq_t hc3 hF
      refine lv_bipush (v := (-2)) hx hb dX11_feed_14 (by decide) ?_
      exact m_iret hx hb hr hlocks hH hE hF rfl dX11_feed_16

def F_X11_probed (o : Nat) (x1 : Int32) : St (Int32) :=
  bd (F_X11_isFour x1) fun c1 => br (c1 = 0) (rt (-2000000 : Int32)) (bd (gR [10] 11 (some o)) fun v3 => bd (aI 0 v3 x1) fun v4 => br (v4 < 0) (rt (-2000000 : Int32)) (bd (gR [10] 14 (some o)) fun v6 => bd (aI 0 v6 x1) fun v7 => br (v7 ≤ 0) (rt (-2000000 : Int32)) (bd (gR [10] 11 (some o)) fun v9 => bd (aI 0 v9 x1) fun v10 => bd (gR [10] 16 (some o)) fun v11 => bd (aI 0 v11 x1) fun v12 => bd (dr [10] (some o)) fun q14 => bd (F_X11_of q14.1 v10 v12) fun c13 => rt c13)))
set_option maxHeartbeats 4000000 in
set_option maxRecDepth 100000 in
theorem t_X11_probed (l : Launch) (D : va_G) (cy : Nat → ClassId) (z : Nat) (o : Nat) (x1 : Int32) : MT l D cy z yX11_probed cX11_probed 2 (some .int) 1 40 (F_X11_probed o x1) vI [.ref o, .int x1] := by
  refine m_enter [(0, .ref o), (1, .int x1)] (by decide) (by first | rfl | simp [lv_args, m_cat, m_ci, m_cl, m_cf, m_cd, m_cr]) (by first | exact Nat.le_of_ble_eq_true rfl | simp [lg_sl, m_cat, m_ci, m_cl, m_cf, m_cd, m_cr]) ?_
  intro p e R s m args below meth c ws0 wsf rr cx hE ws H locs cells slots ls hl hH hF
  obtain ⟨hx, hb, hr, hml, hown, hk, hz, hlocks, hnm, hfr, hlo⟩ := id cx
  unfold F_X11_probed at hF
  refine lv_iload_n hx hb dX11_probed_0 rfl (lv_at hl 1 rfl) ?_
  refine m_cSI hx hb hml hown hk hH hE.le hz (As := [.int x1]) (rest := []) (t_X11_isFour l D cy z x1) hF wd_992 wd_993 wd_38 wd_994 yn_X11_isFour ⟨Nat.le_trans (by decide) hfr, Nat.le_trans (by decide) hlo⟩ hl.1 (by first | exact Nat.le_of_ble_eq_true rfl | simp [m_cat, m_ci, m_cl, m_cf, m_cd, m_cr]) rfl dX11_probed_1 (fun c1 ws H locs cells slots hH hF => ?_)
  refine lv_if_eq (tgt := 44) hx hb dX11_probed_4 (by decide) (fun hc1 => ?_) (fun hc1 => ?_)
  · have hF := bq_t hc1 hF
    refine lv_ldc hx hb hown (hk.wd wd_938 args) dX11_probed_44 ?_
    exact m_iret hx hb hr hlocks hH hE hF rfl dX11_probed_46
  · have hF := bq_f hc1 hF
    refine lv_aload_n hx hb dX11_probed_7 rfl (lv_at hl 0 rfl) ?_
    refine m_gR hx hb hown hk hH hF fk_RX11_probeCurve lk_RX11_38 dX11_probed_8 (fun v3 hF => ?_)
    refine lv_iload_n hx hb dX11_probed_11 rfl (lv_at hl 1 rfl) ?_
    refine m_aI0 hx hb hk hH hF dX11_probed_12 (fun v4 hF => ?_)
    refine lv_if_lt (tgt := 44) hx hb dX11_probed_13 (by decide) (fun hc4 => ?_) (fun hc4 => ?_)
    · have hF := bq_t hc4 hF
      refine lv_ldc hx hb hown (hk.wd wd_938 args) dX11_probed_44 ?_
      exact m_iret hx hb hr hlocks hH hE hF rfl dX11_probed_46
    · have hF := bq_f hc4 hF
      refine lv_aload_n hx hb dX11_probed_16 rfl (lv_at hl 0 rfl) ?_
      refine m_gR hx hb hown hk hH hF fk_RX11_fed lk_RX11_47 dX11_probed_17 (fun v6 hF => ?_)
      refine lv_iload_n hx hb dX11_probed_20 rfl (lv_at hl 1 rfl) ?_
      refine m_aI0 hx hb hk hH hF dX11_probed_21 (fun v7 hF => ?_)
      refine lv_if_le (tgt := 44) hx hb dX11_probed_22 (by decide) (fun hc7 => ?_) (fun hc7 => ?_)
      · have hF := bq_t hc7 hF
        refine lv_ldc hx hb hown (hk.wd wd_938 args) dX11_probed_44 ?_
        exact m_iret hx hb hr hlocks hH hE hF rfl dX11_probed_46
      · have hF := bq_f hc7 hF
        refine lv_aload_n hx hb dX11_probed_25 rfl (lv_at hl 0 rfl) ?_
        refine lv_aload_n hx hb dX11_probed_26 rfl (lv_at hl 0 rfl) ?_
        refine m_gR hx hb hown hk hH hF fk_RX11_probeCurve lk_RX11_38 dX11_probed_27 (fun v9 hF => ?_)
        refine lv_iload_n hx hb dX11_probed_30 rfl (lv_at hl 1 rfl) ?_
        refine m_aI0 hx hb hk hH hF dX11_probed_31 (fun v10 hF => ?_)
        refine lv_aload_n hx hb dX11_probed_32 rfl (lv_at hl 0 rfl) ?_
        refine m_gR hx hb hown hk hH hF fk_RX11_given lk_RX11_53 dX11_probed_33 (fun v11 hF => ?_)
        refine lv_iload_n hx hb dX11_probed_36 rfl (lv_at hl 1 rfl) ?_
        refine m_aI0 hx hb hk hH hF dX11_probed_37 (fun v12 hF => ?_)
        refine m_cVI hx hb hml hown hk hH hE.le hz (F := fun q14 => F_X11_of q14.1 v10 v12) (C := RX11) (T := TX11) (N := 22) rfl (As := [.int v10, .int v12]) (rest := []) (fun o => t_X11_of l D cy z o v10 v12) hF wd_914 wd_916 wd_38 wd_917 wd_21 yn_X11_of ⟨Nat.le_trans (by decide) hfr, Nat.le_trans (by decide) hlo⟩ hl.1 (by first | exact Nat.le_of_ble_eq_true rfl | simp [m_cat, m_ci, m_cl, m_cf, m_cd, m_cr]) rfl dX11_probed_38 (fun c13 ws H locs cells slots hH hF => ?_)
        refine lv_goto (tgt := 46) hx hb dX11_probed_41 (by decide) ?_
        exact m_iret hx hb hr hlocks hH hE hF rfl dX11_probed_46

def j_X11_table_90 (rec : Int32 → St (Int32)) (k : St (Int32)) (x0 : Nat) (x1 : Int32) (x2 : Int32) (x3 : Int32) (x4 : Int32) (x5 : Int32) (s0 : Int32) : St (Int32) :=
  bd (gR [10] 19 (some x0)) fun v13 => bd (dr [10] (some x0)) fun q15 => bd (F_X11_of q15.1 x2 s0) fun c14 => bd (ck ((FP.fmul (FP.i2f c14) (981668463 : UInt32)) &&& 0x7fffffff ≤ 0x7f800000)) fun _ => bd (rt (FP.fmul (FP.i2f c14) (981668463 : UInt32))) fun r16 => bd (sF v13 (((257 : Int32) * x1) + x5) r16) fun _ => rec (x5 + (1 : Int32))
def b_X11_table_63 (x0 : Nat) (x1 : Int32) (x2 : Int32) (x3 : Int32) (x4 : Int32) (rec : Int32 → St (Int32)) (k : St (Int32)) (x5 : Int32) : St (Int32) :=
  br (x4 ≤ x5) (k) (br ((x5 * x3) ≤ (4095 : Int32)) (j_X11_table_90 rec k x0 x1 x2 x3 x4 x5 (x5 * x3)) (j_X11_table_90 rec k x0 x1 x2 x3 x4 x5 (4095 : Int32)))
def l_X11_table_63 (x0 : Nat) (x1 : Int32) (x2 : Int32) (x3 : Int32) (x4 : Int32) (k : St (Int32)) : Nat → Int32 → St (Int32)
  | 0 => fun _ => fl
  | n + 1 => fun x5 => b_X11_table_63 x0 x1 x2 x3 x4 (l_X11_table_63 x0 x1 x2 x3 x4 k n) k x5
def j_X11_table_37 (x0 : Nat) (x1 : Int32) (x2 : Int32) (x3 : Int32) : St (Int32) :=
  bd (gR [10] 17 (some x0)) fun v7 => bd (sI 0 v7 x1 x2) fun _ => bd (gR [10] 18 (some x0)) fun v8 => bd (sI 0 v8 x1 x3) fun _ => bd (ck (¬ x3 = 0)) fun _ => bd (rt (((4096 : Int32) / x3) + (1 : Int32))) fun v10 => l_X11_table_63 x0 x1 x2 x3 v10 (rt v10) FU (0 : Int32)
def F_X11_table (o : Nat) (x1 : Int32) (x2 : Int32) (x3 : Int32) : St (Int32) :=
  bd (F_X11_isFour x1) fun c1 => br (c1 = 0) (rt (-2 : Int32)) (bd (dr [10] (some o)) fun q4 => bd (F_X11_isCurve q4.1 x2) fun c3 => br (c3 = 0) (rt (-2 : Int32)) (br (x3 = (16 : Int32)) (j_X11_table_37 o x1 x2 x3) (br (x3 = (64 : Int32)) (j_X11_table_37 o x1 x2 x3) (br (x3 = (256 : Int32)) (j_X11_table_37 o x1 x2 x3) (rt (-2 : Int32))))))
set_option maxHeartbeats 4000000 in
set_option maxRecDepth 100000 in
theorem w_X11_table_90 {l : Launch} {D : va_G} {cy : Nat → ClassId} {z : Nat} {p : Program} {e : Env} {R : Room} {s : State} {m : MethodId} {args : Array Value} {below : List Frame} {meth : Method} {c : Code} {ws0 wsf : WS} {rr : Int32} (cx : Cx D cy z RX11 cX11_table 7 (some .int) 1 40 "table" p R s m meth c) (hE : AC ws0 wsf R.cells R.slots) (rec : Int32 → St (Int32)) (k : St (Int32)) (x0 : Nat) (x1 : Int32) (x2 : Int32) (x3 : Int32) (x4 : Int32) (hrec : ∀ (x5 : Int32), At_ l D cy z p e R s m args below meth c ws0 wsf vI rr 7 63 [(0, .ref x0), (1, .int x1), (2, .int x2), (3, .int x3), (4, .int x4), (5, .int x5)] [] (rec x5)) (hkk : At_ l D cy z p e R s m args below meth c ws0 wsf vI rr 7 122 [(4, .int x4)] [] (k)) (x5 : Int32) (s0 : Int32) : At_ l D cy z p e R s m args below meth c ws0 wsf vI rr 7 90 [(0, .ref x0), (1, .int x1), (2, .int x2), (3, .int x3), (4, .int x4), (5, .int x5)] [.int s0] (j_X11_table_90 rec k x0 x1 x2 x3 x4 x5 s0) := by
  intro ws H locs cells slots ls hl hH hF
  obtain ⟨hx, hb, hr, hml, hown, hk, hz, hlocks, hnm, hfr, hlo⟩ := id cx
  unfold j_X11_table_90 at hF
  refine lv_istore (lv' := [(6, .int s0), (0, .ref x0), (1, .int x1), (2, .int x2), (3, .int x3), (4, .int x4), (5, .int x5)]) hx hb dX11_table_90 hl (by decide) (by first | rfl | simp [m_cat, m_ci, m_cl, m_cf, m_cd, m_cr]) (fun ls hl => ?_)
  refine lv_aload_n hx hb dX11_table_92 rfl (lv_at hl 1 rfl) ?_
  refine m_gR hx hb hown hk hH hF fk_RX11_entry lk_RX11_62 dX11_table_93 (fun v13 hF => ?_)
  refine lv_sipush (v := (257)) hx hb dX11_table_96 (by decide) ?_
  refine lv_iload_n hx hb dX11_table_99 rfl (lv_at hl 2 rfl) ?_
  refine lv_imul hx hb dX11_table_100 ?_
  refine lv_iload hx hb dX11_table_101 (lv_at hl 6 rfl) ?_
  refine lv_iadd hx hb dX11_table_103 ?_
  refine lv_aload_n hx hb dX11_table_104 rfl (lv_at hl 1 rfl) ?_
  refine lv_iload_n hx hb dX11_table_105 rfl (lv_at hl 3 rfl) ?_
  refine lv_iload hx hb dX11_table_106 (lv_at hl 0 rfl) ?_
  refine m_cVI hx hb hml hown hk hH hE.le hz (F := fun q15 => F_X11_of q15.1 x2 s0) (C := RX11) (T := TX11) (N := 22) rfl (As := [.int x2, .int s0]) (rest := [.int (((257 : Int32) * x1) + x5), va_rf v13]) (fun o => t_X11_of l D cy z o x2 s0) hF wd_914 wd_916 wd_38 wd_917 wd_21 yn_X11_of ⟨Nat.le_trans (by decide) hfr, Nat.le_trans (by decide) hlo⟩ hl.1 (by first | exact Nat.le_of_ble_eq_true rfl | simp [m_cat, m_ci, m_cl, m_cf, m_cd, m_cr]) rfl dX11_table_108 (fun c14 ws H locs cells slots hH hF => ?_)
  refine lv_i2f hx hb dX11_table_111 ?_
  refine lv_ldcf hx hb hown (hk.wd wd_1011 args) dX11_table_112 ?_
  obtain ⟨hqr16, hF⟩ := ck_t hF
  refine lv_fmul hx hb dX11_table_114 hqr16 ?_
  refine lv_topf (fun r16 hr16 => ?_)
  have hF := rt_t hr16 hF
  refine m_sF hx hb hk hH hF dX11_table_115 (fun ws H locs hH hF => ?_)
  refine lv_iinc (v := (x5 + (1 : Int32))) (lv' := [(5, .int (x5 + (1 : Int32))), (6, .int s0), (0, .ref x0), (1, .int x1), (2, .int x2), (3, .int x3), (4, .int x4)]) hx hb dX11_table_116 hl (k := 6) rfl (by first | rfl | (congr 1)) (by decide) (by first | rfl | simp [m_cat, m_ci, m_cl, m_cf, m_cd, m_cr]) (fun ls hl => ?_)
  refine lv_goto (tgt := 63) hx hb dX11_table_119 (by decide) ?_
  exact hrec _ _ _ _ _ _ _ (lv_sub hl [2, 3, 4, 5, 6, 0] rfl) hH hF
set_option maxHeartbeats 4000000 in
set_option maxRecDepth 100000 in
theorem wb_X11_table_63 {l : Launch} {D : va_G} {cy : Nat → ClassId} {z : Nat} {p : Program} {e : Env} {R : Room} {s : State} {m : MethodId} {args : Array Value} {below : List Frame} {meth : Method} {c : Code} {ws0 wsf : WS} {rr : Int32} (cx : Cx D cy z RX11 cX11_table 7 (some .int) 1 40 "table" p R s m meth c) (hE : AC ws0 wsf R.cells R.slots) (x0 : Nat) (x1 : Int32) (x2 : Int32) (x3 : Int32) (x4 : Int32) (rec : Int32 → St (Int32)) (k : St (Int32)) (hrec : ∀ (x5 : Int32), At_ l D cy z p e R s m args below meth c ws0 wsf vI rr 7 63 [(0, .ref x0), (1, .int x1), (2, .int x2), (3, .int x3), (4, .int x4), (5, .int x5)] [] (rec x5)) (hkk : At_ l D cy z p e R s m args below meth c ws0 wsf vI rr 7 122 [(4, .int x4)] [] (k)) (x5 : Int32) : At_ l D cy z p e R s m args below meth c ws0 wsf vI rr 7 63 [(0, .ref x0), (1, .int x1), (2, .int x2), (3, .int x3), (4, .int x4), (5, .int x5)] [] (b_X11_table_63 x0 x1 x2 x3 x4 rec k x5) := by
  intro ws H locs cells slots ls hl hH hF
  obtain ⟨hx, hb, hr, hml, hown, hk, hz, hlocks, hnm, hfr, hlo⟩ := id cx
  unfold b_X11_table_63 at hF
  refine lv_iload hx hb dX11_table_63 (lv_at hl 5 rfl) ?_
  refine lv_iload hx hb dX11_table_65 (lv_at hl 4 rfl) ?_
  refine lv_icmp_ge (tgt := 122) hx hb dX11_table_67 (by decide) (fun hc10 => ?_) (fun hc10 => ?_)
  · have hF := bq_t hc10 hF
    exact hkk _ _ _ _ _ _ (lv_sub hl [4] rfl) hH hF
  · have hF := bq_f hc10 hF
    refine lv_iload hx hb dX11_table_70 (lv_at hl 5 rfl) ?_
    refine lv_iload_n hx hb dX11_table_72 rfl (lv_at hl 3 rfl) ?_
    refine lv_imul hx hb dX11_table_73 ?_
    refine lv_sipush (v := (4095)) hx hb dX11_table_74 (by decide) ?_
    refine lv_icmp_le (tgt := 86) hx hb dX11_table_77 (by decide) (fun hc11 => ?_) (fun hc11 => ?_)
    · have hF := bq_t hc11 hF
      refine lv_iload hx hb dX11_table_86 (lv_at hl 5 rfl) ?_
      refine lv_iload_n hx hb dX11_table_88 rfl (lv_at hl 3 rfl) ?_
      refine lv_imul hx hb dX11_table_89 ?_
      exact w_X11_table_90 cx hE _ _ x0 x1 x2 x3 x4 hrec hkk x5 (x5 * x3) _ _ _ _ _ _ (lv_sub hl [0, 1, 2, 3, 4, 5] rfl) hH hF
    · have hF := bq_f hc11 hF
      refine lv_sipush (v := (4095)) hx hb dX11_table_80 (by decide) ?_
      refine lv_goto (tgt := 90) hx hb dX11_table_83 (by decide) ?_
      exact w_X11_table_90 cx hE _ _ x0 x1 x2 x3 x4 hrec hkk x5 (4095 : Int32) _ _ _ _ _ _ (lv_sub hl [0, 1, 2, 3, 4, 5] rfl) hH hF
theorem w_X11_table_63 {l : Launch} {D : va_G} {cy : Nat → ClassId} {z : Nat} {p : Program} {e : Env} {R : Room} {s : State} {m : MethodId} {args : Array Value} {below : List Frame} {meth : Method} {c : Code} {ws0 wsf : WS} {rr : Int32} (cx : Cx D cy z RX11 cX11_table 7 (some .int) 1 40 "table" p R s m meth c) (hE : AC ws0 wsf R.cells R.slots) (x0 : Nat) (x1 : Int32) (x2 : Int32) (x3 : Int32) (x4 : Int32) (k : St (Int32)) (hkk : At_ l D cy z p e R s m args below meth c ws0 wsf vI rr 7 122 [(4, .int x4)] [] (k)) : ∀ (n : Nat) (x5 : Int32), At_ l D cy z p e R s m args below meth c ws0 wsf vI rr 7 63 [(0, .ref x0), (1, .int x1), (2, .int x2), (3, .int x3), (4, .int x4), (5, .int x5)] [] (l_X11_table_63 x0 x1 x2 x3 x4 k n x5) := by
  intro n
  induction n with
  | zero =>
    intro x5 ws H locs cells slots ls hl hH hF
    exact fl_t hF
  | succ n ih =>
    intro x5
    exact wb_X11_table_63 cx hE x0 x1 x2 x3 x4 (l_X11_table_63 x0 x1 x2 x3 x4 k n) k ih hkk x5
set_option maxHeartbeats 4000000 in
set_option maxRecDepth 100000 in
theorem w_X11_table_37 {l : Launch} {D : va_G} {cy : Nat → ClassId} {z : Nat} {p : Program} {e : Env} {R : Room} {s : State} {m : MethodId} {args : Array Value} {below : List Frame} {meth : Method} {c : Code} {ws0 wsf : WS} {rr : Int32} (cx : Cx D cy z RX11 cX11_table 7 (some .int) 1 40 "table" p R s m meth c) (hE : AC ws0 wsf R.cells R.slots) (x0 : Nat) (x1 : Int32) (x2 : Int32) (x3 : Int32) : At_ l D cy z p e R s m args below meth c ws0 wsf vI rr 7 37 [(0, .ref x0), (1, .int x1), (2, .int x2), (3, .int x3)] [] (j_X11_table_37 x0 x1 x2 x3) := by
  intro ws H locs cells slots ls hl hH hF
  obtain ⟨hx, hb, hr, hml, hown, hk, hz, hlocks, hnm, hfr, hlo⟩ := id cx
  unfold j_X11_table_37 at hF
  refine lv_aload_n hx hb dX11_table_37 rfl (lv_at hl 0 rfl) ?_
  refine m_gR hx hb hown hk hH hF fk_RX11_tableCurve lk_RX11_56 dX11_table_38 (fun v7 hF => ?_)
  refine lv_iload_n hx hb dX11_table_41 rfl (lv_at hl 1 rfl) ?_
  refine lv_iload_n hx hb dX11_table_42 rfl (lv_at hl 2 rfl) ?_
  refine m_sI0 hx hb hk hH hF dX11_table_43 (fun ws H locs hH hF => ?_)
  refine lv_aload_n hx hb dX11_table_44 rfl (lv_at hl 0 rfl) ?_
  refine m_gR hx hb hown hk hH hF fk_RX11_tableStep lk_RX11_59 dX11_table_45 (fun v8 hF => ?_)
  refine lv_iload_n hx hb dX11_table_48 rfl (lv_at hl 1 rfl) ?_
  refine lv_iload_n hx hb dX11_table_49 rfl (lv_at hl 3 rfl) ?_
  refine m_sI0 hx hb hk hH hF dX11_table_50 (fun ws H locs hH hF => ?_)
  refine lv_sipush (v := (4096)) hx hb dX11_table_51 (by decide) ?_
  refine lv_iload_n hx hb dX11_table_54 rfl (lv_at hl 3 rfl) ?_
  obtain ⟨hq8, hF⟩ := ck_t hF
  refine lv_idiv hx hb dX11_table_55 hq8 ?_
  refine lv_iconst (v := (1)) hx hb dX11_table_56 (by decide) ?_
  refine lv_iadd hx hb dX11_table_57 ?_
  refine lv_topi (fun v10 hv10 => ?_)
  have hF := rt_t hv10 hF
  refine lv_istore (lv' := [(4, .int v10), (0, .ref x0), (1, .int x1), (2, .int x2), (3, .int x3)]) hx hb dX11_table_58 hl (by decide) (by first | rfl | simp [m_cat, m_ci, m_cl, m_cf, m_cd, m_cr]) (fun ls hl => ?_)
  refine lv_iconst (v := (0)) hx hb dX11_table_60 (by decide) ?_
  refine lv_istore (lv' := [(5, .int (0 : Int32)), (4, .int v10), (0, .ref x0), (1, .int x1), (2, .int x2), (3, .int x3)]) hx hb dX11_table_61 hl (by decide) (by first | rfl | simp [m_cat, m_ci, m_cl, m_cf, m_cd, m_cr]) (fun ls hl => ?_)
  refine w_X11_table_63 cx hE x0 x1 x2 x3 v10 _ (fun ws H locs cells slots ls hl hH hF => ?_) _ _ _ _ _ _ _ _ (lv_sub hl [2, 3, 4, 5, 1, 0] rfl) hH hF
  refine lv_iload hx hb dX11_table_122 (lv_at hl 0 rfl) ?_
  exact m_iret hx hb hr hlocks hH hE hF rfl dX11_table_124
set_option maxHeartbeats 4000000 in
set_option maxRecDepth 100000 in
theorem t_X11_table (l : Launch) (D : va_G) (cy : Nat → ClassId) (z : Nat) (o : Nat) (x1 : Int32) (x2 : Int32) (x3 : Int32) : MT l D cy z yX11_table cX11_table 7 (some .int) 1 40 (F_X11_table o x1 x2 x3) vI [.ref o, .int x1, .int x2, .int x3] := by
  refine m_enter [(0, .ref o), (1, .int x1), (2, .int x2), (3, .int x3)] (by decide) (by first | rfl | simp [lv_args, m_cat, m_ci, m_cl, m_cf, m_cd, m_cr]) (by first | exact Nat.le_of_ble_eq_true rfl | simp [lg_sl, m_cat, m_ci, m_cl, m_cf, m_cd, m_cr]) ?_
  intro p e R s m args below meth c ws0 wsf rr cx hE ws H locs cells slots ls hl hH hF
  obtain ⟨hx, hb, hr, hml, hown, hk, hz, hlocks, hnm, hfr, hlo⟩ := id cx
  unfold F_X11_table at hF
  refine lv_iload_n hx hb dX11_table_0 rfl (lv_at hl 1 rfl) ?_
  refine m_cSI hx hb hml hown hk hH hE.le hz (As := [.int x1]) (rest := []) (t_X11_isFour l D cy z x1) hF wd_992 wd_993 wd_38 wd_994 yn_X11_isFour ⟨Nat.le_trans (by decide) hfr, Nat.le_trans (by decide) hlo⟩ hl.1 (by first | exact Nat.le_of_ble_eq_true rfl | simp [m_cat, m_ci, m_cl, m_cf, m_cd, m_cr]) rfl dX11_table_1 (fun c1 ws H locs cells slots hH hF => ?_)
  refine lv_if_eq (tgt := 34) hx hb dX11_table_4 (by decide) (fun hc1 => ?_) (fun hc1 => ?_)
  · have hF := bq_t hc1 hF
    refine lv_bipush (v := (-2)) hx hb dX11_table_34 (by decide) ?_
    exact m_iret hx hb hr hlocks hH hE hF rfl dX11_table_36
  · have hF := bq_f hc1 hF
    refine lv_aload_n hx hb dX11_table_7 rfl (lv_at hl 0 rfl) ?_
    refine lv_iload_n hx hb dX11_table_8 rfl (lv_at hl 2 rfl) ?_
    refine m_cVI hx hb hml hown hk hH hE.le hz (F := fun q4 => F_X11_isCurve q4.1 x2) (C := RX11) (T := TX11) (N := 22) rfl (As := [.int x2]) (rest := []) (fun o => t_X11_isCurve l D cy z o x2) hF wd_903 wd_905 wd_38 wd_906 wd_19 yn_X11_isCurve ⟨Nat.le_trans (by decide) hfr, Nat.le_trans (by decide) hlo⟩ hl.1 (by first | exact Nat.le_of_ble_eq_true rfl | simp [m_cat, m_ci, m_cl, m_cf, m_cd, m_cr]) rfl dX11_table_9 (fun c3 ws H locs cells slots hH hF => ?_)
    refine lv_if_eq (tgt := 34) hx hb dX11_table_12 (by decide) (fun hc4 => ?_) (fun hc4 => ?_)
    · have hF := bq_t hc4 hF
      refine lv_bipush (v := (-2)) hx hb dX11_table_34 (by decide) ?_
      exact m_iret hx hb hr hlocks hH hE hF rfl dX11_table_36
    · have hF := bq_f hc4 hF
      refine lv_iload_n hx hb dX11_table_15 rfl (lv_at hl 3 rfl) ?_
      refine lv_bipush (v := (16)) hx hb dX11_table_16 (by decide) ?_
      refine lv_icmp_eq (tgt := 37) hx hb dX11_table_18 (by decide) (fun hc5 => ?_) (fun hc5 => ?_)
      · have hF := bq_t hc5 hF
        exact w_X11_table_37 cx hE o x1 x2 x3 _ _ _ _ _ _ (lv_sub hl [0, 1, 2, 3] rfl) hH hF
      · have hF := bq_f hc5 hF
        refine lv_iload_n hx hb dX11_table_21 rfl (lv_at hl 3 rfl) ?_
        refine lv_bipush (v := (64)) hx hb dX11_table_22 (by decide) ?_
        refine lv_icmp_eq (tgt := 37) hx hb dX11_table_24 (by decide) (fun hc16 => ?_) (fun hc16 => ?_)
        · have hF := bq_t hc16 hF
          exact w_X11_table_37 cx hE o x1 x2 x3 _ _ _ _ _ _ (lv_sub hl [0, 1, 2, 3] rfl) hH hF
        · have hF := bq_f hc16 hF
          refine lv_iload_n hx hb dX11_table_27 rfl (lv_at hl 3 rfl) ?_
          refine lv_sipush (v := (256)) hx hb dX11_table_28 (by decide) ?_
          refine lv_icmp_eq (tgt := 37) hx hb dX11_table_31 (by decide) (fun hc17 => ?_) (fun hc17 => ?_)
          · have hF := bq_t hc17 hF
            exact w_X11_table_37 cx hE o x1 x2 x3 _ _ _ _ _ _ (lv_sub hl [0, 1, 2, 3] rfl) hH hF
          · have hF := bq_f hc17 hF
            refine lv_bipush (v := (-2)) hx hb dX11_table_34 (by decide) ?_
            exact m_iret hx hb hr hlocks hH hE hF rfl dX11_table_36

def F_X11_isTable (o : Nat) (x1 : Int32) : St (Int32) :=
  bd (F_X11_isFour x1) fun c1 => br (c1 = 0) (rt (0 : Int32)) (bd (gR [10] 17 (some o)) fun v3 => bd (aI 0 v3 x1) fun v4 => br (v4 < 0) (rt (0 : Int32)) (rt (1 : Int32)))
set_option maxHeartbeats 4000000 in
set_option maxRecDepth 100000 in
theorem t_X11_isTable (l : Launch) (D : va_G) (cy : Nat → ClassId) (z : Nat) (o : Nat) (x1 : Int32) : MT l D cy z yX11_isTable cX11_isTable 2 (some .boolean) 1 40 (F_X11_isTable o x1) vI [.ref o, .int x1] := by
  refine m_enter [(0, .ref o), (1, .int x1)] (by decide) (by first | rfl | simp [lv_args, m_cat, m_ci, m_cl, m_cf, m_cd, m_cr]) (by first | exact Nat.le_of_ble_eq_true rfl | simp [lg_sl, m_cat, m_ci, m_cl, m_cf, m_cd, m_cr]) ?_
  intro p e R s m args below meth c ws0 wsf rr cx hE ws H locs cells slots ls hl hH hF
  obtain ⟨hx, hb, hr, hml, hown, hk, hz, hlocks, hnm, hfr, hlo⟩ := id cx
  unfold F_X11_isTable at hF
  refine lv_iload_n hx hb dX11_isTable_0 rfl (lv_at hl 1 rfl) ?_
  refine m_cSI hx hb hml hown hk hH hE.le hz (As := [.int x1]) (rest := []) (t_X11_isFour l D cy z x1) hF wd_992 wd_993 wd_38 wd_994 yn_X11_isFour ⟨Nat.le_trans (by decide) hfr, Nat.le_trans (by decide) hlo⟩ hl.1 (by first | exact Nat.le_of_ble_eq_true rfl | simp [m_cat, m_ci, m_cl, m_cf, m_cd, m_cr]) rfl dX11_isTable_1 (fun c1 ws H locs cells slots hH hF => ?_)
  refine lv_if_eq (tgt := 20) hx hb dX11_isTable_4 (by decide) (fun hc1 => ?_) (fun hc1 => ?_)
  · have hF := bq_t hc1 hF
    refine lv_iconst (v := (0)) hx hb dX11_isTable_20 (by decide) ?_
    exact m_iret hx hb hr hlocks hH hE hF rfl dX11_isTable_21
  · have hF := bq_f hc1 hF
    refine lv_aload_n hx hb dX11_isTable_7 rfl (lv_at hl 0 rfl) ?_
    refine m_gR hx hb hown hk hH hF fk_RX11_tableCurve lk_RX11_56 dX11_isTable_8 (fun v3 hF => ?_)
    refine lv_iload_n hx hb dX11_isTable_11 rfl (lv_at hl 1 rfl) ?_
    refine m_aI0 hx hb hk hH hF dX11_isTable_12 (fun v4 hF => ?_)
    refine lv_if_lt (tgt := 20) hx hb dX11_isTable_13 (by decide) (fun hc4 => ?_) (fun hc4 => ?_)
    · have hF := bq_t hc4 hF
      refine lv_iconst (v := (0)) hx hb dX11_isTable_20 (by decide) ?_
      exact m_iret hx hb hr hlocks hH hE hF rfl dX11_isTable_21
    · have hF := bq_f hc4 hF
      refine lv_iconst (v := (1)) hx hb dX11_isTable_16 (by decide) ?_
      refine lv_goto (tgt := 21) hx hb dX11_isTable_17 (by decide) ?_
      exact m_iret hx hb hr hlocks hH hE hF rfl dX11_isTable_21

def F_X11_entry (o : Nat) (x1 : Int32) (x2 : Int32) : St (UInt64) :=
  bd (dr [10] (some o)) fun q2 => bd (F_X11_isTable q2.1 x1) fun c1 => br (c1 = 0) (rt (13924712783166832640 : UInt64)) (br (x2 < 0) (rt (13924712783166832640 : UInt64)) (bd (gR [10] 18 (some o)) fun v5 => bd (aI 0 v5 x1) fun v6 => bd (ck (¬ v6 = 0)) fun _ => br (((4096 : Int32) / v6) < x2) (rt (13924712783166832640 : UInt64)) (bd (gR [10] 19 (some o)) fun v9 => bd (aF v9 (((257 : Int32) * x1) + x2)) fun v10 => bd (ck ((FP.f2d v10) &&& 0x7fffffffffffffff ≤ 0x7ff0000000000000)) fun _ => bd (rt (FP.f2d v10)) fun r11 => rt r11)))
set_option maxHeartbeats 4000000 in
set_option maxRecDepth 100000 in
theorem t_X11_entry (l : Launch) (D : va_G) (cy : Nat → ClassId) (z : Nat) (o : Nat) (x1 : Int32) (x2 : Int32) : MT l D cy z yX11_entry cX11_entry 3 (some .double) 2 61 (F_X11_entry o x1 x2) vD [.ref o, .int x1, .int x2] := by
  refine m_enter [(0, .ref o), (1, .int x1), (2, .int x2)] (by decide) (by first | rfl | simp [lv_args, m_cat, m_ci, m_cl, m_cf, m_cd, m_cr]) (by first | exact Nat.le_of_ble_eq_true rfl | simp [lg_sl, m_cat, m_ci, m_cl, m_cf, m_cd, m_cr]) ?_
  intro p e R s m args below meth c ws0 wsf rr cx hE ws H locs cells slots ls hl hH hF
  obtain ⟨hx, hb, hr, hml, hown, hk, hz, hlocks, hnm, hfr, hlo⟩ := id cx
  unfold F_X11_entry at hF
  refine lv_aload_n hx hb dX11_entry_0 rfl (lv_at hl 0 rfl) ?_
  refine lv_iload_n hx hb dX11_entry_1 rfl (lv_at hl 1 rfl) ?_
  refine m_cVI hx hb hml hown hk hH hE.le hz (F := fun q2 => F_X11_isTable q2.1 x1) (C := RX11) (T := TX11) (N := 22) rfl (As := [.int x1]) (rest := []) (fun o => t_X11_isTable l D cy z o x1) hF wd_1016 wd_1018 wd_38 wd_1019 wd_28 yn_X11_isTable ⟨Nat.le_trans (by decide) hfr, Nat.le_trans (by decide) hlo⟩ hl.1 (by first | exact Nat.le_of_ble_eq_true rfl | simp [m_cat, m_ci, m_cl, m_cf, m_cd, m_cr]) rfl dX11_entry_2 (fun c1 ws H locs cells slots hH hF => ?_)
  refine lv_if_eq (tgt := 42) hx hb dX11_entry_5 (by decide) (fun hc2 => ?_) (fun hc2 => ?_)
  · have hF := bq_t hc2 hF
    refine lv_ldc2d hx hb hown (hk.wd wd_1020 args) dX11_entry_42 ?_
    exact m_dret hx hb hr hlocks hH hE hF dX11_entry_45
  · have hF := bq_f hc2 hF
    refine lv_iload_n hx hb dX11_entry_8 rfl (lv_at hl 2 rfl) ?_
    refine lv_if_lt (tgt := 42) hx hb dX11_entry_9 (by decide) (fun hc3 => ?_) (fun hc3 => ?_)
    · have hF := bq_t hc3 hF
      refine lv_ldc2d hx hb hown (hk.wd wd_1020 args) dX11_entry_42 ?_
      exact m_dret hx hb hr hlocks hH hE hF dX11_entry_45
    · have hF := bq_f hc3 hF
      refine lv_iload_n hx hb dX11_entry_12 rfl (lv_at hl 2 rfl) ?_
      refine lv_sipush (v := (4096)) hx hb dX11_entry_13 (by decide) ?_
      refine lv_aload_n hx hb dX11_entry_16 rfl (lv_at hl 0 rfl) ?_
      refine m_gR hx hb hown hk hH hF fk_RX11_tableStep lk_RX11_59 dX11_entry_17 (fun v5 hF => ?_)
      refine lv_iload_n hx hb dX11_entry_20 rfl (lv_at hl 1 rfl) ?_
      refine m_aI0 hx hb hk hH hF dX11_entry_21 (fun v6 hF => ?_)
      obtain ⟨hq6, hF⟩ := ck_t hF
      refine lv_idiv hx hb dX11_entry_22 hq6 ?_
      refine lv_icmp_gt (tgt := 42) hx hb dX11_entry_23 (by decide) (fun hc7 => ?_) (fun hc7 => ?_)
      · have hF := bq_t hc7 hF
        refine lv_ldc2d hx hb hown (hk.wd wd_1020 args) dX11_entry_42 ?_
        exact m_dret hx hb hr hlocks hH hE hF dX11_entry_45
      · have hF := bq_f hc7 hF
        refine lv_aload_n hx hb dX11_entry_26 rfl (lv_at hl 0 rfl) ?_
        refine m_gR hx hb hown hk hH hF fk_RX11_entry lk_RX11_62 dX11_entry_27 (fun v9 hF => ?_)
        refine lv_sipush (v := (257)) hx hb dX11_entry_30 (by decide) ?_
        refine lv_iload_n hx hb dX11_entry_33 rfl (lv_at hl 1 rfl) ?_
        refine lv_imul hx hb dX11_entry_34 ?_
        refine lv_iload_n hx hb dX11_entry_35 rfl (lv_at hl 2 rfl) ?_
        refine lv_iadd hx hb dX11_entry_36 ?_
        refine m_aF hx hb hk hH hF dX11_entry_37 (fun v10 hF => ?_)
        obtain ⟨hqr11, hF⟩ := ck_t hF
        refine lv_f2d hx hb dX11_entry_38 hqr11 ?_
        refine lv_topd (fun r11 hr11 => ?_)
        have hF := rt_t hr11 hF
        refine lv_goto (tgt := 45) hx hb dX11_entry_39 (by decide) ?_
        exact m_dret hx hb hr hlocks hH hE hF dX11_entry_45

def F_X11_looked (o : Nat) (x1 : Int32) (x2 : Int32) : St (UInt32) :=
  bd (gR [10] 18 (some o)) fun v1 => bd (aI 0 v1 x1) fun v2 => bd (ck (¬ v2 = 0)) fun _ => bd (rt (x2 / v2)) fun v4 => bd (gR [10] 19 (some o)) fun v5 => bd (aF v5 (((257 : Int32) * x1) + v4)) fun v6 => bd (gR [10] 19 (some o)) fun v7 => bd (aF v7 ((((257 : Int32) * x1) + v4) + (1 : Int32))) fun v8 => bd (ck ((FP.fdiv (FP.i2f (x2 - (v4 * v2))) (FP.i2f v2)) &&& 0x7fffffff ≤ 0x7f800000)) fun _ => bd (rt (FP.fdiv (FP.i2f (x2 - (v4 * v2))) (FP.i2f v2))) fun r9 => bd (ck ((FP.fsub v8 v6) &&& 0x7fffffff ≤ 0x7f800000)) fun _ => bd (rt (FP.fsub v8 v6)) fun r10 => bd (ck ((FP.fmul r10 r9) &&& 0x7fffffff ≤ 0x7f800000)) fun _ => bd (rt (FP.fmul r10 r9)) fun r11 => bd (ck ((FP.fadd v6 r11) &&& 0x7fffffff ≤ 0x7f800000)) fun _ => bd (rt (FP.fadd v6 r11)) fun r12 => rt r12
set_option maxHeartbeats 4000000 in
set_option maxRecDepth 100000 in
theorem t_X11_looked (l : Launch) (D : va_G) (cy : Nat → ClassId) (z : Nat) (o : Nat) (x1 : Int32) (x2 : Int32) : MT l D cy z yX11_looked cX11_looked 8 (some .float) 0 0 (F_X11_looked o x1 x2) vF [.ref o, .int x1, .int x2] := by
  refine m_enter [(0, .ref o), (1, .int x1), (2, .int x2)] (by decide) (by first | rfl | simp [lv_args, m_cat, m_ci, m_cl, m_cf, m_cd, m_cr]) (by first | exact Nat.le_of_ble_eq_true rfl | simp [lg_sl, m_cat, m_ci, m_cl, m_cf, m_cd, m_cr]) ?_
  intro p e R s m args below meth c ws0 wsf rr cx hE ws H locs cells slots ls hl hH hF
  obtain ⟨hx, hb, hr, hml, hown, hk, hz, hlocks, hnm, hfr, hlo⟩ := id cx
  unfold F_X11_looked at hF
  refine lv_aload_n hx hb dX11_looked_0 rfl (lv_at hl 0 rfl) ?_
  refine m_gR hx hb hown hk hH hF fk_RX11_tableStep lk_RX11_59 dX11_looked_1 (fun v1 hF => ?_)
  refine lv_iload_n hx hb dX11_looked_4 rfl (lv_at hl 1 rfl) ?_
  refine m_aI0 hx hb hk hH hF dX11_looked_5 (fun v2 hF => ?_)
  refine lv_istore_n (lv' := [(3, .int v2), (0, .ref o), (1, .int x1), (2, .int x2)]) hx hb dX11_looked_6 rfl hl (by decide) (by first | rfl | simp [m_cat, m_ci, m_cl, m_cf, m_cd, m_cr]) (fun ls hl => ?_)
  refine lv_iload_n hx hb dX11_looked_7 rfl (lv_at hl 3 rfl) ?_
  refine lv_iload_n hx hb dX11_looked_8 rfl (lv_at hl 0 rfl) ?_
  obtain ⟨hq2, hF⟩ := ck_t hF
  refine lv_idiv hx hb dX11_looked_9 hq2 ?_
  refine lv_topi (fun v4 hv4 => ?_)
  have hF := rt_t hv4 hF
  refine lv_istore (lv' := [(4, .int v4), (3, .int v2), (0, .ref o), (1, .int x1), (2, .int x2)]) hx hb dX11_looked_10 hl (by decide) (by first | rfl | simp [m_cat, m_ci, m_cl, m_cf, m_cd, m_cr]) (fun ls hl => ?_)
  refine lv_aload_n hx hb dX11_looked_12 rfl (lv_at hl 2 rfl) ?_
  refine m_gR hx hb hown hk hH hF fk_RX11_entry lk_RX11_62 dX11_looked_13 (fun v5 hF => ?_)
  refine lv_sipush (v := (257)) hx hb dX11_looked_16 (by decide) ?_
  refine lv_iload_n hx hb dX11_looked_19 rfl (lv_at hl 3 rfl) ?_
  refine lv_imul hx hb dX11_looked_20 ?_
  refine lv_iload hx hb dX11_looked_21 (lv_at hl 0 rfl) ?_
  refine lv_iadd hx hb dX11_looked_23 ?_
  refine m_aF hx hb hk hH hF dX11_looked_24 (fun v6 hF => ?_)
  refine lv_fstore (lv' := [(5, .float v6), (4, .int v4), (3, .int v2), (0, .ref o), (1, .int x1), (2, .int x2)]) hx hb dX11_looked_25 hl (by decide) (by first | rfl | simp [m_cat, m_ci, m_cl, m_cf, m_cd, m_cr]) (fun ls hl => ?_)
  refine lv_aload_n hx hb dX11_looked_27 rfl (lv_at hl 3 rfl) ?_
  refine m_gR hx hb hown hk hH hF fk_RX11_entry lk_RX11_62 dX11_looked_28 (fun v7 hF => ?_)
  refine lv_sipush (v := (257)) hx hb dX11_looked_31 (by decide) ?_
  refine lv_iload_n hx hb dX11_looked_34 rfl (lv_at hl 4 rfl) ?_
  refine lv_imul hx hb dX11_looked_35 ?_
  refine lv_iload hx hb dX11_looked_36 (lv_at hl 1 rfl) ?_
  refine lv_iadd hx hb dX11_looked_38 ?_
  refine lv_iconst (v := (1)) hx hb dX11_looked_39 (by decide) ?_
  refine lv_iadd hx hb dX11_looked_40 ?_
  refine m_aF hx hb hk hH hF dX11_looked_41 (fun v8 hF => ?_)
  refine lv_fstore (lv' := [(6, .float v8), (5, .float v6), (4, .int v4), (3, .int v2), (0, .ref o), (1, .int x1), (2, .int x2)]) hx hb dX11_looked_42 hl (by decide) (by first | rfl | simp [m_cat, m_ci, m_cl, m_cf, m_cd, m_cr]) (fun ls hl => ?_)
  refine lv_iload_n hx hb dX11_looked_44 rfl (lv_at hl 6 rfl) ?_
  refine lv_iload hx hb dX11_looked_45 (lv_at hl 2 rfl) ?_
  refine lv_iload_n hx hb dX11_looked_47 rfl (lv_at hl 3 rfl) ?_
  refine lv_imul hx hb dX11_looked_48 ?_
  refine lv_isub hx hb dX11_looked_49 ?_
  refine lv_i2f hx hb dX11_looked_50 ?_
  refine lv_iload_n hx hb dX11_looked_51 rfl (lv_at hl 3 rfl) ?_
  refine lv_i2f hx hb dX11_looked_52 ?_
  obtain ⟨hqr9, hF⟩ := ck_t hF
  refine lv_fdiv hx hb dX11_looked_53 hqr9 ?_
  refine lv_topf (fun r9 hr9 => ?_)
  have hF := rt_t hr9 hF
  refine lv_fstore (lv' := [(7, .float r9), (6, .float v8), (5, .float v6), (4, .int v4), (3, .int v2), (0, .ref o), (1, .int x1), (2, .int x2)]) hx hb dX11_looked_54 hl (by decide) (by first | rfl | simp [m_cat, m_ci, m_cl, m_cf, m_cd, m_cr]) (fun ls hl => ?_)
  refine lv_fload hx hb dX11_looked_56 (lv_at hl 2 rfl) ?_
  refine lv_fload hx hb dX11_looked_58 (lv_at hl 1 rfl) ?_
  refine lv_fload hx hb dX11_looked_60 (lv_at hl 2 rfl) ?_
  obtain ⟨hqr10, hF⟩ := ck_t hF
  refine lv_fsub hx hb dX11_looked_62 hqr10 ?_
  refine lv_topf (fun r10 hr10 => ?_)
  have hF := rt_t hr10 hF
  refine lv_fload hx hb dX11_looked_63 (lv_at hl 0 rfl) ?_
  obtain ⟨hqr11, hF⟩ := ck_t hF
  refine lv_fmul hx hb dX11_looked_65 hqr11 ?_
  refine lv_topf (fun r11 hr11 => ?_)
  have hF := rt_t hr11 hF
  obtain ⟨hqr12, hF⟩ := ck_t hF
  refine lv_fadd hx hb dX11_looked_66 hqr12 ?_
  refine lv_topf (fun r12 hr12 => ?_)
  have hF := rt_t hr12 hF
  exact m_fret hx hb hr hlocks hH hE hF dX11_looked_67

def F_X11_lookup (o : Nat) (x1 : Int32) (x2 : Int32) : St (UInt64) :=
  bd (dr [10] (some o)) fun q2 => bd (F_X11_isTable q2.1 x1) fun c1 => br (c1 = 0) (rt (13924712783166832640 : UInt64)) (bd (F_X11_isCount x2) fun c4 => br (c4 = 0) (rt (13924712783166832640 : UInt64)) (bd (dr [10] (some o)) fun q7 => bd (F_X11_looked q7.1 x1 x2) fun c6 => bd (ck ((FP.f2d c6) &&& 0x7fffffffffffffff ≤ 0x7ff0000000000000)) fun _ => bd (rt (FP.f2d c6)) fun r8 => rt r8))
set_option maxHeartbeats 4000000 in
set_option maxRecDepth 100000 in
theorem t_X11_lookup (l : Launch) (D : va_G) (cy : Nat → ClassId) (z : Nat) (o : Nat) (x1 : Int32) (x2 : Int32) : MT l D cy z yX11_lookup cX11_lookup 3 (some .double) 2 61 (F_X11_lookup o x1 x2) vD [.ref o, .int x1, .int x2] := by
  refine m_enter [(0, .ref o), (1, .int x1), (2, .int x2)] (by decide) (by first | rfl | simp [lv_args, m_cat, m_ci, m_cl, m_cf, m_cd, m_cr]) (by first | exact Nat.le_of_ble_eq_true rfl | simp [lg_sl, m_cat, m_ci, m_cl, m_cf, m_cd, m_cr]) ?_
  intro p e R s m args below meth c ws0 wsf rr cx hE ws H locs cells slots ls hl hH hF
  obtain ⟨hx, hb, hr, hml, hown, hk, hz, hlocks, hnm, hfr, hlo⟩ := id cx
  unfold F_X11_lookup at hF
  refine lv_aload_n hx hb dX11_lookup_0 rfl (lv_at hl 0 rfl) ?_
  refine lv_iload_n hx hb dX11_lookup_1 rfl (lv_at hl 1 rfl) ?_
  refine m_cVI hx hb hml hown hk hH hE.le hz (F := fun q2 => F_X11_isTable q2.1 x1) (C := RX11) (T := TX11) (N := 22) rfl (As := [.int x1]) (rest := []) (fun o => t_X11_isTable l D cy z o x1) hF wd_1016 wd_1018 wd_38 wd_1019 wd_28 yn_X11_isTable ⟨Nat.le_trans (by decide) hfr, Nat.le_trans (by decide) hlo⟩ hl.1 (by first | exact Nat.le_of_ble_eq_true rfl | simp [m_cat, m_ci, m_cl, m_cf, m_cd, m_cr]) rfl dX11_lookup_2 (fun c1 ws H locs cells slots hH hF => ?_)
  refine lv_if_eq (tgt := 25) hx hb dX11_lookup_5 (by decide) (fun hc2 => ?_) (fun hc2 => ?_)
  · have hF := bq_t hc2 hF
    refine lv_ldc2d hx hb hown (hk.wd wd_1020 args) dX11_lookup_25 ?_
    exact m_dret hx hb hr hlocks hH hE hF dX11_lookup_28
  · have hF := bq_f hc2 hF
    refine lv_iload_n hx hb dX11_lookup_8 rfl (lv_at hl 2 rfl) ?_
    refine m_cSI hx hb hml hown hk hH hE.le hz (As := [.int x2]) (rest := []) (t_X11_isCount l D cy z x2) hF wd_846 wd_847 wd_38 wd_848 yn_X11_isCount ⟨Nat.le_trans (by decide) hfr, Nat.le_trans (by decide) hlo⟩ hl.1 (by first | exact Nat.le_of_ble_eq_true rfl | simp [m_cat, m_ci, m_cl, m_cf, m_cd, m_cr]) rfl dX11_lookup_9 (fun c4 ws H locs cells slots hH hF => ?_)
    refine lv_if_eq (tgt := 25) hx hb dX11_lookup_12 (by decide) (fun hc4 => ?_) (fun hc4 => ?_)
    · have hF := bq_t hc4 hF
      refine lv_ldc2d hx hb hown (hk.wd wd_1020 args) dX11_lookup_25 ?_
      exact m_dret hx hb hr hlocks hH hE hF dX11_lookup_28
    · have hF := bq_f hc4 hF
      refine lv_aload_n hx hb dX11_lookup_15 rfl (lv_at hl 0 rfl) ?_
      refine lv_iload_n hx hb dX11_lookup_16 rfl (lv_at hl 1 rfl) ?_
      refine lv_iload_n hx hb dX11_lookup_17 rfl (lv_at hl 2 rfl) ?_
      refine m_cVF hx hb hml hown hk hH hE.le hz (F := fun q7 => F_X11_looked q7.1 x1 x2) (C := RX11) (T := TX11) (N := 22) rfl (As := [.int x1, .int x2]) (rest := []) (fun o => t_X11_looked l D cy z o x1 x2) hF wd_1025 wd_1027 wd_38 wd_1028 wd_29 yn_X11_looked ⟨Nat.le_trans (by decide) hfr, Nat.le_trans (by decide) hlo⟩ hl.1 (by first | exact Nat.le_of_ble_eq_true rfl | simp [m_cat, m_ci, m_cl, m_cf, m_cd, m_cr]) rfl dX11_lookup_18 (fun c6 ws H locs cells slots hH hF => ?_)
      obtain ⟨hqr8, hF⟩ := ck_t hF
      refine lv_f2d hx hb dX11_lookup_21 hqr8 ?_
      refine lv_topd (fun r8 hr8 => ?_)
      have hF := rt_t hr8 hF
      refine lv_goto (tgt := 28) hx hb dX11_lookup_22 (by decide) ?_
      exact m_dret hx hb hr hlocks hH hE hF dX11_lookup_28

def F_X11_offBy (o : Nat) (x1 : Int32) (x2 : Int32) : St (UInt64) :=
  bd (dr [10] (some o)) fun q2 => bd (F_X11_looked q2.1 x1 x2) fun c1 => bd (ck ((FP.f2d c1) &&& 0x7fffffffffffffff ≤ 0x7ff0000000000000)) fun _ => bd (rt (FP.f2d c1)) fun r3 => bd (gR [10] 17 (some o)) fun v4 => bd (aI 0 v4 x1) fun v5 => bd (dr [10] (some o)) fun q7 => bd (F_X11_of q7.1 v5 x2) fun c6 => bd (ck ((FP.dmul (FP.i2d c6) (4562254508917369340 : UInt64)) &&& 0x7fffffffffffffff ≤ 0x7ff0000000000000)) fun _ => bd (rt (FP.dmul (FP.i2d c6) (4562254508917369340 : UInt64))) fun r8 => bd (ck ((FP.dsub r3 r8) &&& 0x7fffffffffffffff ≤ 0x7ff0000000000000)) fun _ => bd (rt (FP.dsub r3 r8)) fun r9 => br (0 ≤ (Op.cmpValue (FP.dcmp r9 FP.dconst0) CmpOp.g)) (rt r9) (rt (FP.dneg r9))
set_option maxHeartbeats 4000000 in
set_option maxRecDepth 100000 in
theorem t_X11_offBy (l : Launch) (D : va_G) (cy : Nat → ClassId) (z : Nat) (o : Nat) (x1 : Int32) (x2 : Int32) : MT l D cy z yX11_offBy cX11_offBy 5 (some .double) 1 40 (F_X11_offBy o x1 x2) vD [.ref o, .int x1, .int x2] := by
  refine m_enter [(0, .ref o), (1, .int x1), (2, .int x2)] (by decide) (by first | rfl | simp [lv_args, m_cat, m_ci, m_cl, m_cf, m_cd, m_cr]) (by first | exact Nat.le_of_ble_eq_true rfl | simp [lg_sl, m_cat, m_ci, m_cl, m_cf, m_cd, m_cr]) ?_
  intro p e R s m args below meth c ws0 wsf rr cx hE ws H locs cells slots ls hl hH hF
  obtain ⟨hx, hb, hr, hml, hown, hk, hz, hlocks, hnm, hfr, hlo⟩ := id cx
  unfold F_X11_offBy at hF
  refine lv_aload_n hx hb dX11_offBy_0 rfl (lv_at hl 0 rfl) ?_
  refine lv_iload_n hx hb dX11_offBy_1 rfl (lv_at hl 1 rfl) ?_
  refine lv_iload_n hx hb dX11_offBy_2 rfl (lv_at hl 2 rfl) ?_
  refine m_cVF hx hb hml hown hk hH hE.le hz (F := fun q2 => F_X11_looked q2.1 x1 x2) (C := RX11) (T := TX11) (N := 22) rfl (As := [.int x1, .int x2]) (rest := []) (fun o => t_X11_looked l D cy z o x1 x2) hF wd_1025 wd_1027 wd_38 wd_1028 wd_29 yn_X11_looked ⟨Nat.le_trans (by decide) hfr, Nat.le_trans (by decide) hlo⟩ hl.1 (by first | exact Nat.le_of_ble_eq_true rfl | simp [m_cat, m_ci, m_cl, m_cf, m_cd, m_cr]) rfl dX11_offBy_3 (fun c1 ws H locs cells slots hH hF => ?_)
  obtain ⟨hqr3, hF⟩ := ck_t hF
  refine lv_f2d hx hb dX11_offBy_6 hqr3 ?_
  refine lv_topd (fun r3 hr3 => ?_)
  have hF := rt_t hr3 hF
  refine lv_aload_n hx hb dX11_offBy_7 rfl (lv_at hl 0 rfl) ?_
  refine lv_aload_n hx hb dX11_offBy_8 rfl (lv_at hl 0 rfl) ?_
  refine m_gR hx hb hown hk hH hF fk_RX11_tableCurve lk_RX11_56 dX11_offBy_9 (fun v4 hF => ?_)
  refine lv_iload_n hx hb dX11_offBy_12 rfl (lv_at hl 1 rfl) ?_
  refine m_aI0 hx hb hk hH hF dX11_offBy_13 (fun v5 hF => ?_)
  refine lv_iload_n hx hb dX11_offBy_14 rfl (lv_at hl 2 rfl) ?_
  refine m_cVI hx hb hml hown hk hH hE.le hz (F := fun q7 => F_X11_of q7.1 v5 x2) (C := RX11) (T := TX11) (N := 22) rfl (As := [.int v5, .int x2]) (rest := [.double r3]) (fun o => t_X11_of l D cy z o v5 x2) hF wd_914 wd_916 wd_38 wd_917 wd_21 yn_X11_of ⟨Nat.le_trans (by decide) hfr, Nat.le_trans (by decide) hlo⟩ hl.1 (by first | exact Nat.le_of_ble_eq_true rfl | simp [m_cat, m_ci, m_cl, m_cf, m_cd, m_cr]) rfl dX11_offBy_15 (fun c6 ws H locs cells slots hH hF => ?_)
  refine lv_i2d hx hb dX11_offBy_18 ?_
  refine lv_ldc2d hx hb hown (hk.wd wd_1041 args) dX11_offBy_19 ?_
  obtain ⟨hqr8, hF⟩ := ck_t hF
  refine lv_dmul hx hb dX11_offBy_22 hqr8 ?_
  refine lv_topd (fun r8 hr8 => ?_)
  have hF := rt_t hr8 hF
  obtain ⟨hqr9, hF⟩ := ck_t hF
  refine lv_dsub hx hb dX11_offBy_23 hqr9 ?_
  refine lv_topd (fun r9 hr9 => ?_)
  have hF := rt_t hr9 hF
  refine lv_dstore_n (lv' := [(3, .double r9), (0, .ref o), (1, .int x1), (2, .int x2)]) hx hb dX11_offBy_24 rfl hl (by decide) (by first | rfl | simp [m_cat, m_ci, m_cl, m_cf, m_cd, m_cr]) (fun ls hl => ?_)
  refine lv_dload_n hx hb dX11_offBy_25 rfl (lv_at hl 0 rfl) ?_
  refine lv_dconst0 hx hb dX11_offBy_26 ?_
  refine lv_dcmp hx hb dX11_offBy_27 ?_
  refine lv_if_ge (tgt := 36) hx hb dX11_offBy_28 (by decide) (fun hc9 => ?_) (fun hc9 => ?_)
  · have hF := bq_t hc9 hF
    refine lv_dload_n hx hb dX11_offBy_36 rfl (lv_at hl 0 rfl) ?_
    exact m_dret hx hb hr hlocks hH hE hF dX11_offBy_37
  · have hF := bq_f hc9 hF
    refine lv_dload_n hx hb dX11_offBy_31 rfl (lv_at hl 0 rfl) ?_
    refine lv_dneg hx hb dX11_offBy_32 ?_
    refine lv_goto (tgt := 37) hx hb dX11_offBy_33 (by decide) ?_
    exact m_dret hx hb hr hlocks hH hE hF dX11_offBy_37

def j_X11_mostOff_32 (rec : Int32 → Int32 → St (Int32)) (k : Int32 → St (Int32)) (x0 : Nat) (x1 : Int32) (x3 : Int32) (s0 : Int32) : St (Int32) :=
  rec s0 (x3 + (1 : Int32))
def b_X11_mostOff_4 (x0 : Nat) (x1 : Int32) (rec : Int32 → Int32 → St (Int32)) (k : Int32 → St (Int32)) (x2 : Int32) (x3 : Int32) : St (Int32) :=
  br ((4096 : Int32) ≤ x3) (k x2) (bd (dr [10] (some x0)) fun q3 => bd (F_X11_offBy q3.1 x1 x3) fun c2 => bd (dr [10] (some x0)) fun q5 => bd (F_X11_offBy q5.1 x1 x2) fun c4 => br ((Op.cmpValue (FP.dcmp c2 c4) CmpOp.l) ≤ 0) (j_X11_mostOff_32 rec k x0 x1 x3 x2) (j_X11_mostOff_32 rec k x0 x1 x3 x3))
def l_X11_mostOff_4 (x0 : Nat) (x1 : Int32) (k : Int32 → St (Int32)) : Nat → Int32 → Int32 → St (Int32)
  | 0 => fun _ _ => fl
  | n + 1 => fun x2 x3 => b_X11_mostOff_4 x0 x1 (l_X11_mostOff_4 x0 x1 k n) k x2 x3
def F_X11_mostOff (o : Nat) (x1 : Int32) : St (Int32) :=
  l_X11_mostOff_4 o x1 (fun (e7 : Int32) => rt e7) FU (0 : Int32) (1 : Int32)
set_option maxHeartbeats 4000000 in
set_option maxRecDepth 100000 in
theorem w_X11_mostOff_32 {l : Launch} {D : va_G} {cy : Nat → ClassId} {z : Nat} {p : Program} {e : Env} {R : Room} {s : State} {m : MethodId} {args : Array Value} {below : List Frame} {meth : Method} {c : Code} {ws0 wsf : WS} {rr : Int32} (cx : Cx D cy z RX11 cX11_mostOff 4 (some .int) 2 64 "mostOff" p R s m meth c) (hE : AC ws0 wsf R.cells R.slots) (rec : Int32 → Int32 → St (Int32)) (k : Int32 → St (Int32)) (x0 : Nat) (x1 : Int32) (hrec : ∀ (x2 : Int32) (x3 : Int32), At_ l D cy z p e R s m args below meth c ws0 wsf vI rr 4 4 [(0, .ref x0), (1, .int x1), (2, .int x2), (3, .int x3)] [] (rec x2 x3)) (hkk : ∀ (x2 : Int32), At_ l D cy z p e R s m args below meth c ws0 wsf vI rr 4 39 [(2, .int x2)] [] (k x2)) (x3 : Int32) (s0 : Int32) : At_ l D cy z p e R s m args below meth c ws0 wsf vI rr 4 32 [(0, .ref x0), (1, .int x1), (3, .int x3)] [.int s0] (j_X11_mostOff_32 rec k x0 x1 x3 s0) := by
  intro ws H locs cells slots ls hl hH hF
  obtain ⟨hx, hb, hr, hml, hown, hk, hz, hlocks, hnm, hfr, hlo⟩ := id cx
  unfold j_X11_mostOff_32 at hF
  refine lv_istore_n (lv' := [(2, .int s0), (0, .ref x0), (1, .int x1), (3, .int x3)]) hx hb dX11_mostOff_32 rfl hl (by decide) (by first | rfl | simp [m_cat, m_ci, m_cl, m_cf, m_cd, m_cr]) (fun ls hl => ?_)
  refine lv_iinc (v := (x3 + (1 : Int32))) (lv' := [(3, .int (x3 + (1 : Int32))), (2, .int s0), (0, .ref x0), (1, .int x1)]) hx hb dX11_mostOff_33 hl (k := 3) rfl (by first | rfl | (congr 1)) (by decide) (by first | rfl | simp [m_cat, m_ci, m_cl, m_cf, m_cd, m_cr]) (fun ls hl => ?_)
  refine lv_goto (tgt := 4) hx hb dX11_mostOff_36 (by decide) ?_
  exact hrec _ _ _ _ _ _ _ _ (lv_sub hl [2, 3, 1, 0] rfl) hH hF
set_option maxHeartbeats 4000000 in
set_option maxRecDepth 100000 in
theorem wb_X11_mostOff_4 {l : Launch} {D : va_G} {cy : Nat → ClassId} {z : Nat} {p : Program} {e : Env} {R : Room} {s : State} {m : MethodId} {args : Array Value} {below : List Frame} {meth : Method} {c : Code} {ws0 wsf : WS} {rr : Int32} (cx : Cx D cy z RX11 cX11_mostOff 4 (some .int) 2 64 "mostOff" p R s m meth c) (hE : AC ws0 wsf R.cells R.slots) (x0 : Nat) (x1 : Int32) (rec : Int32 → Int32 → St (Int32)) (k : Int32 → St (Int32)) (hrec : ∀ (x2 : Int32) (x3 : Int32), At_ l D cy z p e R s m args below meth c ws0 wsf vI rr 4 4 [(0, .ref x0), (1, .int x1), (2, .int x2), (3, .int x3)] [] (rec x2 x3)) (hkk : ∀ (x2 : Int32), At_ l D cy z p e R s m args below meth c ws0 wsf vI rr 4 39 [(2, .int x2)] [] (k x2)) (x2 : Int32) (x3 : Int32) : At_ l D cy z p e R s m args below meth c ws0 wsf vI rr 4 4 [(0, .ref x0), (1, .int x1), (2, .int x2), (3, .int x3)] [] (b_X11_mostOff_4 x0 x1 rec k x2 x3) := by
  intro ws H locs cells slots ls hl hH hF
  obtain ⟨hx, hb, hr, hml, hown, hk, hz, hlocks, hnm, hfr, hlo⟩ := id cx
  unfold b_X11_mostOff_4 at hF
  refine lv_iload_n hx hb dX11_mostOff_4 rfl (lv_at hl 3 rfl) ?_
  refine lv_sipush (v := (4096)) hx hb dX11_mostOff_5 (by decide) ?_
  refine lv_icmp_ge (tgt := 39) hx hb dX11_mostOff_8 (by decide) (fun hc0 => ?_) (fun hc0 => ?_)
  · have hF := bq_t hc0 hF
    exact hkk _ _ _ _ _ _ _ (lv_sub hl [2] rfl) hH hF
  · have hF := bq_f hc0 hF
    refine lv_aload_n hx hb dX11_mostOff_11 rfl (lv_at hl 0 rfl) ?_
    refine lv_iload_n hx hb dX11_mostOff_12 rfl (lv_at hl 1 rfl) ?_
    refine lv_iload_n hx hb dX11_mostOff_13 rfl (lv_at hl 3 rfl) ?_
    refine m_cVD hx hb hml hown hk hH hE.le hz (F := fun q3 => F_X11_offBy q3.1 x1 x3) (C := RX11) (T := TX11) (N := 22) rfl (As := [.int x1, .int x3]) (rest := []) (fun o => t_X11_offBy l D cy z o x1 x3) hF wd_1037 wd_1039 wd_38 wd_1040 wd_31 yn_X11_offBy ⟨Nat.le_trans (by decide) hfr, Nat.le_trans (by decide) hlo⟩ hl.1 (by first | exact Nat.le_of_ble_eq_true rfl | simp [m_cat, m_ci, m_cl, m_cf, m_cd, m_cr]) rfl dX11_mostOff_14 (fun c2 ws H locs cells slots hH hF => ?_)
    refine lv_aload_n hx hb dX11_mostOff_17 rfl (lv_at hl 0 rfl) ?_
    refine lv_iload_n hx hb dX11_mostOff_18 rfl (lv_at hl 1 rfl) ?_
    refine lv_iload_n hx hb dX11_mostOff_19 rfl (lv_at hl 2 rfl) ?_
    refine m_cVD hx hb hml hown hk hH hE.le hz (F := fun q5 => F_X11_offBy q5.1 x1 x2) (C := RX11) (T := TX11) (N := 22) rfl (As := [.int x1, .int x2]) (rest := [.double c2]) (fun o => t_X11_offBy l D cy z o x1 x2) hF wd_1037 wd_1039 wd_38 wd_1040 wd_31 yn_X11_offBy ⟨Nat.le_trans (by decide) hfr, Nat.le_trans (by decide) hlo⟩ hl.1 (by first | exact Nat.le_of_ble_eq_true rfl | simp [m_cat, m_ci, m_cl, m_cf, m_cd, m_cr]) rfl dX11_mostOff_20 (fun c4 ws H locs cells slots hH hF => ?_)
    refine lv_dcmp hx hb dX11_mostOff_23 ?_
    refine lv_if_le (tgt := 31) hx hb dX11_mostOff_24 (by decide) (fun hc5 => ?_) (fun hc5 => ?_)
    · have hF := bq_t hc5 hF
      refine lv_iload_n hx hb dX11_mostOff_31 rfl (lv_at hl 2 rfl) ?_
      exact w_X11_mostOff_32 cx hE _ _ x0 x1 hrec hkk x3 x2 _ _ _ _ _ _ (lv_sub hl [0, 1, 3] rfl) hH hF
    · have hF := bq_f hc5 hF
      refine lv_iload_n hx hb dX11_mostOff_27 rfl (lv_at hl 3 rfl) ?_
      refine lv_goto (tgt := 32) hx hb dX11_mostOff_28 (by decide) ?_
      exact w_X11_mostOff_32 cx hE _ _ x0 x1 hrec hkk x3 x3 _ _ _ _ _ _ (lv_sub hl [0, 1, 3] rfl) hH hF
theorem w_X11_mostOff_4 {l : Launch} {D : va_G} {cy : Nat → ClassId} {z : Nat} {p : Program} {e : Env} {R : Room} {s : State} {m : MethodId} {args : Array Value} {below : List Frame} {meth : Method} {c : Code} {ws0 wsf : WS} {rr : Int32} (cx : Cx D cy z RX11 cX11_mostOff 4 (some .int) 2 64 "mostOff" p R s m meth c) (hE : AC ws0 wsf R.cells R.slots) (x0 : Nat) (x1 : Int32) (k : Int32 → St (Int32)) (hkk : ∀ (x2 : Int32), At_ l D cy z p e R s m args below meth c ws0 wsf vI rr 4 39 [(2, .int x2)] [] (k x2)) : ∀ (n : Nat) (x2 : Int32) (x3 : Int32), At_ l D cy z p e R s m args below meth c ws0 wsf vI rr 4 4 [(0, .ref x0), (1, .int x1), (2, .int x2), (3, .int x3)] [] (l_X11_mostOff_4 x0 x1 k n x2 x3) := by
  intro n
  induction n with
  | zero =>
    intro x2 x3 ws H locs cells slots ls hl hH hF
    exact fl_t hF
  | succ n ih =>
    intro x2 x3
    exact wb_X11_mostOff_4 cx hE x0 x1 (l_X11_mostOff_4 x0 x1 k n) k ih hkk x2 x3
set_option maxHeartbeats 4000000 in
set_option maxRecDepth 100000 in
theorem t_X11_mostOff (l : Launch) (D : va_G) (cy : Nat → ClassId) (z : Nat) (o : Nat) (x1 : Int32) : MT l D cy z yX11_mostOff cX11_mostOff 4 (some .int) 2 64 (F_X11_mostOff o x1) vI [.ref o, .int x1] := by
  refine m_enter [(0, .ref o), (1, .int x1)] (by decide) (by first | rfl | simp [lv_args, m_cat, m_ci, m_cl, m_cf, m_cd, m_cr]) (by first | exact Nat.le_of_ble_eq_true rfl | simp [lg_sl, m_cat, m_ci, m_cl, m_cf, m_cd, m_cr]) ?_
  intro p e R s m args below meth c ws0 wsf rr cx hE ws H locs cells slots ls hl hH hF
  obtain ⟨hx, hb, hr, hml, hown, hk, hz, hlocks, hnm, hfr, hlo⟩ := id cx
  unfold F_X11_mostOff at hF
  refine lv_iconst (v := (0)) hx hb dX11_mostOff_0 (by decide) ?_
  refine lv_istore_n (lv' := [(2, .int (0 : Int32)), (0, .ref o), (1, .int x1)]) hx hb dX11_mostOff_1 rfl hl (by decide) (by first | rfl | simp [m_cat, m_ci, m_cl, m_cf, m_cd, m_cr]) (fun ls hl => ?_)
  refine lv_iconst (v := (1)) hx hb dX11_mostOff_2 (by decide) ?_
  refine lv_istore_n (lv' := [(3, .int (1 : Int32)), (2, .int (0 : Int32)), (0, .ref o), (1, .int x1)]) hx hb dX11_mostOff_3 rfl hl (by decide) (by first | rfl | simp [m_cat, m_ci, m_cl, m_cf, m_cd, m_cr]) (fun ls hl => ?_)
  refine w_X11_mostOff_4 cx hE o x1 _ (fun e7 ws H locs cells slots ls hl hH hF => ?_) _ _ _ _ _ _ _ _ _ (lv_sub hl [2, 3, 1, 0] rfl) hH hF
  refine lv_iload_n hx hb dX11_mostOff_39 rfl (lv_at hl 0 rfl) ?_
  exact m_iret hx hb hr hlocks hH hE hF rfl dX11_mostOff_40

def F_X11_off (o : Nat) (x1 : Int32) : St (UInt64) :=
  bd (dr [10] (some o)) fun q2 => bd (F_X11_isTable q2.1 x1) fun c1 => br (c1 = 0) (rt (13924712783166832640 : UInt64)) (bd (dr [10] (some o)) fun q5 => bd (F_X11_mostOff q5.1 x1) fun c4 => bd (dr [10] (some o)) fun q7 => bd (F_X11_offBy q7.1 x1 c4) fun c6 => rt c6)
set_option maxHeartbeats 4000000 in
set_option maxRecDepth 100000 in
theorem t_X11_off (l : Launch) (D : va_G) (cy : Nat → ClassId) (z : Nat) (o : Nat) (x1 : Int32) : MT l D cy z yX11_off cX11_off 2 (some .double) 3 87 (F_X11_off o x1) vD [.ref o, .int x1] := by
  refine m_enter [(0, .ref o), (1, .int x1)] (by decide) (by first | rfl | simp [lv_args, m_cat, m_ci, m_cl, m_cf, m_cd, m_cr]) (by first | exact Nat.le_of_ble_eq_true rfl | simp [lg_sl, m_cat, m_ci, m_cl, m_cf, m_cd, m_cr]) ?_
  intro p e R s m args below meth c ws0 wsf rr cx hE ws H locs cells slots ls hl hH hF
  obtain ⟨hx, hb, hr, hml, hown, hk, hz, hlocks, hnm, hfr, hlo⟩ := id cx
  unfold F_X11_off at hF
  refine lv_aload_n hx hb dX11_off_0 rfl (lv_at hl 0 rfl) ?_
  refine lv_iload_n hx hb dX11_off_1 rfl (lv_at hl 1 rfl) ?_
  refine m_cVI hx hb hml hown hk hH hE.le hz (F := fun q2 => F_X11_isTable q2.1 x1) (C := RX11) (T := TX11) (N := 22) rfl (As := [.int x1]) (rest := []) (fun o => t_X11_isTable l D cy z o x1) hF wd_1016 wd_1018 wd_38 wd_1019 wd_28 yn_X11_isTable ⟨Nat.le_trans (by decide) hfr, Nat.le_trans (by decide) hlo⟩ hl.1 (by first | exact Nat.le_of_ble_eq_true rfl | simp [m_cat, m_ci, m_cl, m_cf, m_cd, m_cr]) rfl dX11_off_2 (fun c1 ws H locs cells slots hH hF => ?_)
  refine lv_if_eq (tgt := 21) hx hb dX11_off_5 (by decide) (fun hc2 => ?_) (fun hc2 => ?_)
  · have hF := bq_t hc2 hF
    refine lv_ldc2d hx hb hown (hk.wd wd_1020 args) dX11_off_21 ?_
    exact m_dret hx hb hr hlocks hH hE hF dX11_off_24
  · have hF := bq_f hc2 hF
    refine lv_aload_n hx hb dX11_off_8 rfl (lv_at hl 0 rfl) ?_
    refine lv_iload_n hx hb dX11_off_9 rfl (lv_at hl 1 rfl) ?_
    refine lv_aload_n hx hb dX11_off_10 rfl (lv_at hl 0 rfl) ?_
    refine lv_iload_n hx hb dX11_off_11 rfl (lv_at hl 1 rfl) ?_
    refine m_cVI hx hb hml hown hk hH hE.le hz (F := fun q5 => F_X11_mostOff q5.1 x1) (C := RX11) (T := TX11) (N := 22) rfl (As := [.int x1]) (rest := [.int x1, .ref o]) (fun o => t_X11_mostOff l D cy z o x1) hF wd_1033 wd_1035 wd_38 wd_1036 wd_30 yn_X11_mostOff ⟨Nat.le_trans (by decide) hfr, Nat.le_trans (by decide) hlo⟩ hl.1 (by first | exact Nat.le_of_ble_eq_true rfl | simp [m_cat, m_ci, m_cl, m_cf, m_cd, m_cr]) rfl dX11_off_12 (fun c4 ws H locs cells slots hH hF => ?_)
    refine m_cVD hx hb hml hown hk hH hE.le hz (F := fun q7 => F_X11_offBy q7.1 x1 c4) (C := RX11) (T := TX11) (N := 22) rfl (As := [.int x1, .int c4]) (rest := []) (fun o => t_X11_offBy l D cy z o x1 c4) hF wd_1037 wd_1039 wd_38 wd_1040 wd_31 yn_X11_offBy ⟨Nat.le_trans (by decide) hfr, Nat.le_trans (by decide) hlo⟩ hl.1 (by first | exact Nat.le_of_ble_eq_true rfl | simp [m_cat, m_ci, m_cl, m_cf, m_cd, m_cr]) rfl dX11_off_15 (fun c6 ws H locs cells slots hH hF => ?_)
    refine lv_goto (tgt := 24) hx hb dX11_off_18 (by decide) ?_
    exact m_dret hx hb hr hlocks hH hE hF dX11_off_24

def F_X11_offAt (o : Nat) (x1 : Int32) : St (Int32) :=
  bd (dr [10] (some o)) fun q2 => bd (F_X11_isTable q2.1 x1) fun c1 => br (c1 = 0) (rt (-2 : Int32)) (bd (dr [10] (some o)) fun q5 => bd (F_X11_mostOff q5.1 x1) fun c4 => rt c4)
set_option maxHeartbeats 4000000 in
set_option maxRecDepth 100000 in
theorem t_X11_offAt (l : Launch) (D : va_G) (cy : Nat → ClassId) (z : Nat) (o : Nat) (x1 : Int32) : MT l D cy z yX11_offAt cX11_offAt 2 (some .int) 3 87 (F_X11_offAt o x1) vI [.ref o, .int x1] := by
  refine m_enter [(0, .ref o), (1, .int x1)] (by decide) (by first | rfl | simp [lv_args, m_cat, m_ci, m_cl, m_cf, m_cd, m_cr]) (by first | exact Nat.le_of_ble_eq_true rfl | simp [lg_sl, m_cat, m_ci, m_cl, m_cf, m_cd, m_cr]) ?_
  intro p e R s m args below meth c ws0 wsf rr cx hE ws H locs cells slots ls hl hH hF
  obtain ⟨hx, hb, hr, hml, hown, hk, hz, hlocks, hnm, hfr, hlo⟩ := id cx
  unfold F_X11_offAt at hF
  refine lv_aload_n hx hb dX11_offAt_0 rfl (lv_at hl 0 rfl) ?_
  refine lv_iload_n hx hb dX11_offAt_1 rfl (lv_at hl 1 rfl) ?_
  refine m_cVI hx hb hml hown hk hH hE.le hz (F := fun q2 => F_X11_isTable q2.1 x1) (C := RX11) (T := TX11) (N := 22) rfl (As := [.int x1]) (rest := []) (fun o => t_X11_isTable l D cy z o x1) hF wd_1016 wd_1018 wd_38 wd_1019 wd_28 yn_X11_isTable ⟨Nat.le_trans (by decide) hfr, Nat.le_trans (by decide) hlo⟩ hl.1 (by first | exact Nat.le_of_ble_eq_true rfl | simp [m_cat, m_ci, m_cl, m_cf, m_cd, m_cr]) rfl dX11_offAt_2 (fun c1 ws H locs cells slots hH hF => ?_)
  refine lv_if_eq (tgt := 16) hx hb dX11_offAt_5 (by decide) (fun hc2 => ?_) (fun hc2 => ?_)
  · have hF := bq_t hc2 hF
    refine lv_bipush (v := (-2)) hx hb dX11_offAt_16 (by decide) ?_
    exact m_iret hx hb hr hlocks hH hE hF rfl dX11_offAt_18
  · have hF := bq_f hc2 hF
    refine lv_aload_n hx hb dX11_offAt_8 rfl (lv_at hl 0 rfl) ?_
    refine lv_iload_n hx hb dX11_offAt_9 rfl (lv_at hl 1 rfl) ?_
    refine m_cVI hx hb hml hown hk hH hE.le hz (F := fun q5 => F_X11_mostOff q5.1 x1) (C := RX11) (T := TX11) (N := 22) rfl (As := [.int x1]) (rest := []) (fun o => t_X11_mostOff l D cy z o x1) hF wd_1033 wd_1035 wd_38 wd_1036 wd_30 yn_X11_mostOff ⟨Nat.le_trans (by decide) hfr, Nat.le_trans (by decide) hlo⟩ hl.1 (by first | exact Nat.le_of_ble_eq_true rfl | simp [m_cat, m_ci, m_cl, m_cf, m_cd, m_cr]) rfl dX11_offAt_10 (fun c4 ws H locs cells slots hH hF => ?_)
    refine lv_goto (tgt := 18) hx hb dX11_offAt_13 (by decide) ?_
    exact m_iret hx hb hr hlocks hH hE hF rfl dX11_offAt_18

def F_X11_isBank (x0 : Int32) : St (Int32) :=
  br (x0 < 0) (rt (0 : Int32)) (br ((8 : Int32) ≤ x0) (rt (0 : Int32)) (rt (1 : Int32)))
set_option maxHeartbeats 4000000 in
set_option maxRecDepth 100000 in
theorem t_X11_isBank (l : Launch) (D : va_G) (cy : Nat → ClassId) (z : Nat) (x0 : Int32) : MT l D cy z yX11_isBank cX11_isBank 1 (some .boolean) 0 0 (F_X11_isBank x0) vI [.int x0] := by
  refine m_enter [(0, .int x0)] (by decide) (by first | rfl | simp [lv_args, m_cat, m_ci, m_cl, m_cf, m_cd, m_cr]) (by first | exact Nat.le_of_ble_eq_true rfl | simp [lg_sl, m_cat, m_ci, m_cl, m_cf, m_cd, m_cr]) ?_
  intro p e R s m args below meth c ws0 wsf rr cx hE ws H locs cells slots ls hl hH hF
  obtain ⟨hx, hb, hr, hml, hown, hk, hz, hlocks, hnm, hfr, hlo⟩ := id cx
  unfold F_X11_isBank at hF
  refine lv_iload_n hx hb dX11_isBank_0 rfl (lv_at hl 0 rfl) ?_
  refine lv_if_lt (tgt := 14) hx hb dX11_isBank_1 (by decide) (fun hc0 => ?_) (fun hc0 => ?_)
  · have hF := bq_t hc0 hF
    refine lv_iconst (v := (0)) hx hb dX11_isBank_14 (by decide) ?_
    exact m_iret hx hb hr hlocks hH hE hF rfl dX11_isBank_15
  · have hF := bq_f hc0 hF
    refine lv_iload_n hx hb dX11_isBank_4 rfl (lv_at hl 0 rfl) ?_
    refine lv_bipush (v := (8)) hx hb dX11_isBank_5 (by decide) ?_
    refine lv_icmp_ge (tgt := 14) hx hb dX11_isBank_7 (by decide) (fun hc1 => ?_) (fun hc1 => ?_)
    · have hF := bq_t hc1 hF
      refine lv_iconst (v := (0)) hx hb dX11_isBank_14 (by decide) ?_
      exact m_iret hx hb hr hlocks hH hE hF rfl dX11_isBank_15
    · have hF := bq_f hc1 hF
      refine lv_iconst (v := (1)) hx hb dX11_isBank_10 (by decide) ?_
      refine lv_goto (tgt := 15) hx hb dX11_isBank_11 (by decide) ?_
      exact m_iret hx hb hr hlocks hH hE hF rfl dX11_isBank_15

def b_X11_bank_34 (x0 : Nat) (x1 : Int32) (x2 : Int32) (rec : Int32 → St (Int64)) (k : St (Int64)) (x3 : Int32) : St (Int64) :=
  br ((64 : Int32) ≤ x3) (k) (bd (gR [10] 21 (some x0)) fun v7 => bd (sL v7 (((64 : Int32) * x1) + x3) (0 : Int64)) fun _ => rec (x3 + (1 : Int32)))
def l_X11_bank_34 (x0 : Nat) (x1 : Int32) (x2 : Int32) (k : St (Int64)) : Nat → Int32 → St (Int64)
  | 0 => fun _ => fl
  | n + 1 => fun x3 => b_X11_bank_34 x0 x1 x2 (l_X11_bank_34 x0 x1 x2 k n) k x3
def F_X11_bank (o : Nat) (x1 : Int32) (x2 : Int32) : St (Int64) :=
  bd (F_X11_isBank x1) fun c1 => br (c1 = 0) (rt (-2 : Int64)) (br (x2 ≤ (64 : Int32)) (br (0 ≤ x2) (bd (gR [10] 20 (some o)) fun v5 => bd (sI 0 v5 x1 x2) fun _ => l_X11_bank_34 o x1 x2 (rt x2.toInt64) FU (0 : Int32)) (rt (-1000000000002 : Int64))) (rt (-2 : Int64)))
set_option maxHeartbeats 4000000 in
set_option maxRecDepth 100000 in
theorem wb_X11_bank_34 {l : Launch} {D : va_G} {cy : Nat → ClassId} {z : Nat} {p : Program} {e : Env} {R : Room} {s : State} {m : MethodId} {args : Array Value} {below : List Frame} {meth : Method} {c : Code} {ws0 wsf : WS} {rr : Int64} (cx : Cx D cy z RX11 cX11_bank 4 (some .long) 1 40 "bank" p R s m meth c) (hE : AC ws0 wsf R.cells R.slots) (x0 : Nat) (x1 : Int32) (x2 : Int32) (rec : Int32 → St (Int64)) (k : St (Int64)) (hrec : ∀ (x3 : Int32), At_ l D cy z p e R s m args below meth c ws0 wsf vL rr 4 34 [(0, .ref x0), (1, .int x1), (2, .int x2), (3, .int x3)] [] (rec x3)) (hkk : At_ l D cy z p e R s m args below meth c ws0 wsf vL rr 4 58 [(2, .int x2)] [] (k)) (x3 : Int32) : At_ l D cy z p e R s m args below meth c ws0 wsf vL rr 4 34 [(0, .ref x0), (1, .int x1), (2, .int x2), (3, .int x3)] [] (b_X11_bank_34 x0 x1 x2 rec k x3) := by
  intro ws H locs cells slots ls hl hH hF
  obtain ⟨hx, hb, hr, hml, hown, hk, hz, hlocks, hnm, hfr, hlo⟩ := id cx
  unfold b_X11_bank_34 at hF
  refine lv_iload_n hx hb dX11_bank_34 rfl (lv_at hl 3 rfl) ?_
  refine lv_bipush (v := (64)) hx hb dX11_bank_35 (by decide) ?_
  refine lv_icmp_ge (tgt := 58) hx hb dX11_bank_37 (by decide) (fun hc5 => ?_) (fun hc5 => ?_)
  · have hF := bq_t hc5 hF
    exact hkk _ _ _ _ _ _ (lv_sub hl [2] rfl) hH hF
  · have hF := bq_f hc5 hF
    refine lv_aload_n hx hb dX11_bank_40 rfl (lv_at hl 0 rfl) ?_
    refine m_gR hx hb hown hk hH hF fk_RX11_bank lk_RX11_69 dX11_bank_41 (fun v7 hF => ?_)
    refine lv_bipush (v := (64)) hx hb dX11_bank_44 (by decide) ?_
    refine lv_iload_n hx hb dX11_bank_46 rfl (lv_at hl 1 rfl) ?_
    refine lv_imul hx hb dX11_bank_47 ?_
    refine lv_iload_n hx hb dX11_bank_48 rfl (lv_at hl 3 rfl) ?_
    refine lv_iadd hx hb dX11_bank_49 ?_
    refine lv_lconst (v := (0)) hx hb dX11_bank_50 (by decide) ?_
    refine m_sL hx hb hk hH hF dX11_bank_51 (fun ws H locs hH hF => ?_)
    refine lv_iinc (v := (x3 + (1 : Int32))) (lv' := [(3, .int (x3 + (1 : Int32))), (0, .ref x0), (1, .int x1), (2, .int x2)]) hx hb dX11_bank_52 hl (k := 3) rfl (by first | rfl | (congr 1)) (by decide) (by first | rfl | simp [m_cat, m_ci, m_cl, m_cf, m_cd, m_cr]) (fun ls hl => ?_)
    refine lv_goto (tgt := 34) hx hb dX11_bank_55 (by decide) ?_
    exact hrec _ _ _ _ _ _ _ (lv_sub hl [1, 2, 3, 0] rfl) hH hF
theorem w_X11_bank_34 {l : Launch} {D : va_G} {cy : Nat → ClassId} {z : Nat} {p : Program} {e : Env} {R : Room} {s : State} {m : MethodId} {args : Array Value} {below : List Frame} {meth : Method} {c : Code} {ws0 wsf : WS} {rr : Int64} (cx : Cx D cy z RX11 cX11_bank 4 (some .long) 1 40 "bank" p R s m meth c) (hE : AC ws0 wsf R.cells R.slots) (x0 : Nat) (x1 : Int32) (x2 : Int32) (k : St (Int64)) (hkk : At_ l D cy z p e R s m args below meth c ws0 wsf vL rr 4 58 [(2, .int x2)] [] (k)) : ∀ (n : Nat) (x3 : Int32), At_ l D cy z p e R s m args below meth c ws0 wsf vL rr 4 34 [(0, .ref x0), (1, .int x1), (2, .int x2), (3, .int x3)] [] (l_X11_bank_34 x0 x1 x2 k n x3) := by
  intro n
  induction n with
  | zero =>
    intro x3 ws H locs cells slots ls hl hH hF
    exact fl_t hF
  | succ n ih =>
    intro x3
    exact wb_X11_bank_34 cx hE x0 x1 x2 (l_X11_bank_34 x0 x1 x2 k n) k ih hkk x3
set_option maxHeartbeats 4000000 in
set_option maxRecDepth 100000 in
theorem t_X11_bank (l : Launch) (D : va_G) (cy : Nat → ClassId) (z : Nat) (o : Nat) (x1 : Int32) (x2 : Int32) : MT l D cy z yX11_bank cX11_bank 4 (some .long) 1 40 (F_X11_bank o x1 x2) vL [.ref o, .int x1, .int x2] := by
  refine m_enter [(0, .ref o), (1, .int x1), (2, .int x2)] (by decide) (by first | rfl | simp [lv_args, m_cat, m_ci, m_cl, m_cf, m_cd, m_cr]) (by first | exact Nat.le_of_ble_eq_true rfl | simp [lg_sl, m_cat, m_ci, m_cl, m_cf, m_cd, m_cr]) ?_
  intro p e R s m args below meth c ws0 wsf rr cx hE ws H locs cells slots ls hl hH hF
  obtain ⟨hx, hb, hr, hml, hown, hk, hz, hlocks, hnm, hfr, hlo⟩ := id cx
  unfold F_X11_bank at hF
  refine lv_iload_n hx hb dX11_bank_0 rfl (lv_at hl 1 rfl) ?_
  refine m_cSI hx hb hml hown hk hH hE.le hz (As := [.int x1]) (rest := []) (t_X11_isBank l D cy z x1) hF wd_1050 wd_1051 wd_38 wd_1052 yn_X11_isBank ⟨Nat.le_trans (by decide) hfr, Nat.le_trans (by decide) hlo⟩ hl.1 (by first | exact Nat.le_of_ble_eq_true rfl | simp [m_cat, m_ci, m_cl, m_cf, m_cd, m_cr]) rfl dX11_bank_1 (fun c1 ws H locs cells slots hH hF => ?_)
  refine lv_if_eq (tgt := 13) hx hb dX11_bank_4 (by decide) (fun hc1 => ?_) (fun hc1 => ?_)
  · have hF := bq_t hc1 hF
    refine lv_ldc2 hx hb hown (hk.wd wd_983 args) dX11_bank_13 ?_
    exact m_lret hx hb hr hlocks hH hE hF dX11_bank_16
  · have hF := bq_f hc1 hF
    refine lv_iload_n hx hb dX11_bank_7 rfl (lv_at hl 2 rfl) ?_
    refine lv_bipush (v := (64)) hx hb dX11_bank_8 (by decide) ?_
    refine lv_icmp_le (tgt := 17) hx hb dX11_bank_10 (by decide) (fun hc2 => ?_) (fun hc2 => ?_)
    · have hF := bq_t hc2 hF
      refine lv_iload_n hx hb dX11_bank_17 rfl (lv_at hl 2 rfl) ?_
      refine lv_if_ge (tgt := 25) hx hb dX11_bank_18 (by decide) (fun hc3 => ?_) (fun hc3 => ?_)
      · have hF := bq_t hc3 hF
        refine lv_aload_n hx hb dX11_bank_25 rfl (lv_at hl 0 rfl) ?_
        refine m_gR hx hb hown hk hH hF fk_RX11_bankSize lk_RX11_66 dX11_bank_26 (fun v5 hF => ?_)
        refine lv_iload_n hx hb dX11_bank_29 rfl (lv_at hl 1 rfl) ?_
        refine lv_iload_n hx hb dX11_bank_30 rfl (lv_at hl 2 rfl) ?_
        refine m_sI0 hx hb hk hH hF dX11_bank_31 (fun ws H locs hH hF => ?_)
        refine lv_iconst (v := (0)) hx hb dX11_bank_32 (by decide) ?_
        refine lv_istore_n (lv' := [(3, .int (0 : Int32)), (0, .ref o), (1, .int x1), (2, .int x2)]) hx hb dX11_bank_33 rfl hl (by decide) (by first | rfl | simp [m_cat, m_ci, m_cl, m_cf, m_cd, m_cr]) (fun ls hl => ?_)
        refine w_X11_bank_34 cx hE o x1 x2 _ (fun ws H locs cells slots ls hl hH hF => ?_) _ _ _ _ _ _ _ _ (lv_sub hl [1, 2, 3, 0] rfl) hH hF
        refine lv_iload_n hx hb dX11_bank_58 rfl (lv_at hl 0 rfl) ?_
        refine lv_i2l hx hb dX11_bank_59 rfl ?_
        exact m_lret hx hb hr hlocks hH hE hF dX11_bank_60
      · have hF := bq_f hc3 hF
        refine lv_ldc2 hx hb hown (hk.wd wd_1053 args) dX11_bank_21 ?_
        exact m_lret hx hb hr hlocks hH hE hF dX11_bank_24
    · have hF := bq_f hc2 hF
      refine lv_ldc2 hx hb hown (hk.wd wd_983 args) dX11_bank_13 ?_
      exact m_lret hx hb hr hlocks hH hE hF dX11_bank_16

def j_X11_free_24 (x0 : Nat) (x1 : Int32) (s0 : Int32) : St (Int32) :=
  bd (gR [10] 20 (some x0)) fun v6 => bd (sI 0 v6 x1 (-1 : Int32)) fun _ => rt s0
def F_X11_free (o : Nat) (x1 : Int32) : St (Int32) :=
  bd (F_X11_isBank x1) fun c1 => br (c1 = 0) (rt (-2 : Int32)) (bd (gR [10] 20 (some o)) fun v3 => bd (aI 0 v3 x1) fun v4 => br (0 ≤ v4) (j_X11_free_24 o x1 (1 : Int32)) (j_X11_free_24 o x1 (0 : Int32)))
set_option maxHeartbeats 4000000 in
set_option maxRecDepth 100000 in
theorem w_X11_free_24 {l : Launch} {D : va_G} {cy : Nat → ClassId} {z : Nat} {p : Program} {e : Env} {R : Room} {s : State} {m : MethodId} {args : Array Value} {below : List Frame} {meth : Method} {c : Code} {ws0 wsf : WS} {rr : Int32} (cx : Cx D cy z RX11 cX11_free 3 (some .int) 1 40 "free" p R s m meth c) (hE : AC ws0 wsf R.cells R.slots) (x0 : Nat) (x1 : Int32) (s0 : Int32) : At_ l D cy z p e R s m args below meth c ws0 wsf vI rr 3 24 [(0, .ref x0), (1, .int x1)] [.int s0] (j_X11_free_24 x0 x1 s0) := by
  intro ws H locs cells slots ls hl hH hF
  obtain ⟨hx, hb, hr, hml, hown, hk, hz, hlocks, hnm, hfr, hlo⟩ := id cx
  unfold j_X11_free_24 at hF
  refine lv_istore_n (lv' := [(2, .int s0), (0, .ref x0), (1, .int x1)]) hx hb dX11_free_24 rfl hl (by decide) (by first | rfl | simp [m_cat, m_ci, m_cl, m_cf, m_cd, m_cr]) (fun ls hl => ?_)
  refine lv_aload_n hx hb dX11_free_25 rfl (lv_at hl 1 rfl) ?_
  refine m_gR hx hb hown hk hH hF fk_RX11_bankSize lk_RX11_66 dX11_free_26 (fun v6 hF => ?_)
  refine lv_iload_n hx hb dX11_free_29 rfl (lv_at hl 2 rfl) ?_
  refine lv_iconst (v := (-1)) hx hb dX11_free_30 (by decide) ?_
  refine m_sI0 hx hb hk hH hF dX11_free_31 (fun ws H locs hH hF => ?_)
  refine lv_iload_n hx hb dX11_free_32 rfl (lv_at hl 0 rfl) ?_
  exact m_iret hx hb hr hlocks hH hE hF rfl dX11_free_33
set_option maxHeartbeats 4000000 in
set_option maxRecDepth 100000 in
theorem t_X11_free (l : Launch) (D : va_G) (cy : Nat → ClassId) (z : Nat) (o : Nat) (x1 : Int32) : MT l D cy z yX11_free cX11_free 3 (some .int) 1 40 (F_X11_free o x1) vI [.ref o, .int x1] := by
  refine m_enter [(0, .ref o), (1, .int x1)] (by decide) (by first | rfl | simp [lv_args, m_cat, m_ci, m_cl, m_cf, m_cd, m_cr]) (by first | exact Nat.le_of_ble_eq_true rfl | simp [lg_sl, m_cat, m_ci, m_cl, m_cf, m_cd, m_cr]) ?_
  intro p e R s m args below meth c ws0 wsf rr cx hE ws H locs cells slots ls hl hH hF
  obtain ⟨hx, hb, hr, hml, hown, hk, hz, hlocks, hnm, hfr, hlo⟩ := id cx
  unfold F_X11_free at hF
  refine lv_iload_n hx hb dX11_free_0 rfl (lv_at hl 1 rfl) ?_
  refine m_cSI hx hb hml hown hk hH hE.le hz (As := [.int x1]) (rest := []) (t_X11_isBank l D cy z x1) hF wd_1050 wd_1051 wd_38 wd_1052 yn_X11_isBank ⟨Nat.le_trans (by decide) hfr, Nat.le_trans (by decide) hlo⟩ hl.1 (by first | exact Nat.le_of_ble_eq_true rfl | simp [m_cat, m_ci, m_cl, m_cf, m_cd, m_cr]) rfl dX11_free_1 (fun c1 ws H locs cells slots hH hF => ?_)
  refine lv_if_ne (tgt := 10) hx hb dX11_free_4 (by decide) (fun hc1 => ?_) (fun hc1 => ?_)
  · have hF := bq_f hc1 hF
    refine lv_aload_n hx hb dX11_free_10 rfl (lv_at hl 0 rfl) ?_
    refine m_gR hx hb hown hk hH hF fk_RX11_bankSize lk_RX11_66 dX11_free_11 (fun v3 hF => ?_)
    refine lv_iload_n hx hb dX11_free_14 rfl (lv_at hl 1 rfl) ?_
    refine m_aI0 hx hb hk hH hF dX11_free_15 (fun v4 hF => ?_)
    refine lv_if_ge (tgt := 23) hx hb dX11_free_16 (by decide) (fun hc4 => ?_) (fun hc4 => ?_)
    · have hF := bq_t hc4 hF
      refine lv_iconst (v := (1)) hx hb dX11_free_23 (by decide) ?_
      exact w_X11_free_24 cx hE o x1 (1 : Int32) _ _ _ _ _ _ (lv_sub hl [0, 1] rfl) hH hF
    · have hF := bq_f hc4 hF
      refine lv_iconst (v := (0)) hx hb dX11_free_19 (by decide) ?_
      refine lv_goto (tgt := 24) hx hb dX11_free_20 (by decide) ?_
      exact w_X11_free_24 cx hE o x1 (0 : Int32) _ _ _ _ _ _ (lv_sub hl [0, 1] rfl) hH hF
  · have hF := bq_t hc1 hF
    refine lv_bipush (v := (-2)) hx hb dX11_free_7 (by decide) ?_
    exact m_iret hx hb hr hlocks hH hE hF rfl dX11_free_9
