def b_X11_mirror_43 (x0 : Nat) (x1 : Int32) (x2 : Int32) (rec : Int32 → St (Int32)) (k : St (Int32)) (x3 : Int32) : St (Int32) :=
  br ((4096 : Int32) ≤ x3) (k) (bd (gR [10] 7 (some x0)) fun v14 => bd (dr [10] (some x0)) fun q16 => bd (F_X11_of q16.1 x1 ((4095 : Int32) - x3)) fun c15 => bd (sI 0 v14 (((4096 : Int32) * x2) + x3) c15) fun _ => rec (x3 + (1 : Int32)))
def l_X11_mirror_43 (x0 : Nat) (x1 : Int32) (x2 : Int32) (k : St (Int32)) : Nat → Int32 → St (Int32)
  | 0 => fun _ => fl
  | n + 1 => fun x3 => b_X11_mirror_43 x0 x1 x2 (l_X11_mirror_43 x0 x1 x2 k n) k x3
def F_X11_mirror (o : Nat) (x1 : Int32) : St (Int32) :=
  bd (dr [10] (some o)) fun q2 => bd (F_X11_isCurve q2.1 x1) fun c1 => br (c1 = 0) (rt (-2 : Int32)) (bd (gR [10] 6 (some o)) fun v4 => bd (aI 0 v4 x1) fun v5 => bd (dr [10] (some o)) fun q7 => bd (F_X11_mayWork q7.1 (v5 + (1 : Int32))) fun c6 => br (c6 = 0) (rt (-2 : Int32)) (bd (gR [10] 6 (some o)) fun v9 => bd (aI 0 v9 x1) fun v10 => bd (dr [10] (some o)) fun q12 => bd (F_X11_newCurve q12.1 (6 : Int32) (v10 + (1 : Int32))) fun c11 => l_X11_mirror_43 o x1 c11 (rt c11) FU (0 : Int32)))
set_option maxHeartbeats 4000000 in
set_option maxRecDepth 100000 in
theorem wb_X11_mirror_43 {l : Launch} {D : va_G} {cy : Nat → ClassId} {z : Nat} {p : Program} {e : Env} {R : Room} {s : State} {m : MethodId} {args : Array Value} {below : List Frame} {meth : Method} {c : Code} {ws0 wsf : WS} {rr : Int32} (cx : Cx D cy z RX11 cX11_mirror 4 (some .int) 1 40 "mirror" p R s m meth c) (hE : AC ws0 wsf R.cells R.slots) (x0 : Nat) (x1 : Int32) (x2 : Int32) (rec : Int32 → St (Int32)) (k : St (Int32)) (hrec : ∀ (x3 : Int32), At_ l D cy z p e R s m args below meth c ws0 wsf vI rr 4 43 [(0, .ref x0), (1, .int x1), (2, .int x2), (3, .int x3)] [] (rec x3)) (hkk : At_ l D cy z p e R s m args below meth c ws0 wsf vI rr 4 78 [(2, .int x2)] [] (k)) (x3 : Int32) : At_ l D cy z p e R s m args below meth c ws0 wsf vI rr 4 43 [(0, .ref x0), (1, .int x1), (2, .int x2), (3, .int x3)] [] (b_X11_mirror_43 x0 x1 x2 rec k x3) := by
  intro ws H locs cells slots ls hl hH hF
  obtain ⟨hx, hb, hr, hml, hown, hk, hz, hlocks, hnm, hfr, hlo⟩ := id cx
  unfold b_X11_mirror_43 at hF
  refine lv_iload_n hx hb dX11_mirror_43 rfl (lv_at hl 3 rfl) ?_
  refine lv_sipush (v := (4096)) hx hb dX11_mirror_44 (by decide) ?_
  refine lv_icmp_ge (tgt := 78) hx hb dX11_mirror_47 (by decide) (fun hc12 => ?_) (fun hc12 => ?_)
  · have hF := bq_t hc12 hF
    exact hkk _ _ _ _ _ _ (lv_sub hl [2] rfl) hH hF
  · have hF := bq_f hc12 hF
    refine lv_aload_n hx hb dX11_mirror_50 rfl (lv_at hl 0 rfl) ?_
    refine m_gR hx hb hown hk hH hF fk_RX11_value lk_RX11_29 dX11_mirror_51 (fun v14 hF => ?_)
    refine lv_sipush (v := (4096)) hx hb dX11_mirror_54 (by decide) ?_
    refine lv_iload_n hx hb dX11_mirror_57 rfl (lv_at hl 2 rfl) ?_
    refine lv_imul hx hb dX11_mirror_58 ?_
    refine lv_iload_n hx hb dX11_mirror_59 rfl (lv_at hl 3 rfl) ?_
    refine lv_iadd hx hb dX11_mirror_60 ?_
    refine lv_aload_n hx hb dX11_mirror_61 rfl (lv_at hl 0 rfl) ?_
    refine lv_iload_n hx hb dX11_mirror_62 rfl (lv_at hl 1 rfl) ?_
    refine lv_sipush (v := (4095)) hx hb dX11_mirror_63 (by decide) ?_
    refine lv_iload_n hx hb dX11_mirror_66 rfl (lv_at hl 3 rfl) ?_
    refine lv_isub hx hb dX11_mirror_67 ?_
    refine m_cVI hx hb hml hown hk hH hE.le hz (F := fun q16 => F_X11_of q16.1 x1 ((4095 : Int32) - x3)) (C := RX11) (T := TX11) (N := 22) rfl (As := [.int x1, .int ((4095 : Int32) - x3)]) (rest := [.int (((4096 : Int32) * x2) + x3), va_rf v14]) (fun o => t_X11_of l D cy z o x1 ((4095 : Int32) - x3)) hF wd_914 wd_916 wd_38 wd_917 wd_21 yn_X11_of ⟨Nat.le_trans (by decide) hfr, Nat.le_trans (by decide) hlo⟩ hl.1 (by first | exact Nat.le_of_ble_eq_true rfl | simp [m_cat, m_ci, m_cl, m_cf, m_cd, m_cr]) rfl dX11_mirror_68 (fun c15 ws H locs cells slots hH hF => ?_)
    refine m_sI0 hx hb hk hH hF dX11_mirror_71 (fun ws H locs hH hF => ?_)
    refine lv_iinc (v := (x3 + (1 : Int32))) (lv' := [(3, .int (x3 + (1 : Int32))), (0, .ref x0), (1, .int x1), (2, .int x2)]) hx hb dX11_mirror_72 hl (k := 3) rfl (by first | rfl | (congr 1)) (by decide) (by first | rfl | simp [m_cat, m_ci, m_cl, m_cf, m_cd, m_cr]) (fun ls hl => ?_)
    refine lv_goto (tgt := 43) hx hb dX11_mirror_75 (by decide) ?_
    exact hrec _ _ _ _ _ _ _ (lv_sub hl [1, 2, 3, 0] rfl) hH hF
theorem w_X11_mirror_43 {l : Launch} {D : va_G} {cy : Nat → ClassId} {z : Nat} {p : Program} {e : Env} {R : Room} {s : State} {m : MethodId} {args : Array Value} {below : List Frame} {meth : Method} {c : Code} {ws0 wsf : WS} {rr : Int32} (cx : Cx D cy z RX11 cX11_mirror 4 (some .int) 1 40 "mirror" p R s m meth c) (hE : AC ws0 wsf R.cells R.slots) (x0 : Nat) (x1 : Int32) (x2 : Int32) (k : St (Int32)) (hkk : At_ l D cy z p e R s m args below meth c ws0 wsf vI rr 4 78 [(2, .int x2)] [] (k)) : ∀ (n : Nat) (x3 : Int32), At_ l D cy z p e R s m args below meth c ws0 wsf vI rr 4 43 [(0, .ref x0), (1, .int x1), (2, .int x2), (3, .int x3)] [] (l_X11_mirror_43 x0 x1 x2 k n x3) := by
  intro n
  induction n with
  | zero =>
    intro x3 ws H locs cells slots ls hl hH hF
    exact fl_t hF
  | succ n ih =>
    intro x3
    exact wb_X11_mirror_43 cx hE x0 x1 x2 (l_X11_mirror_43 x0 x1 x2 k n) k ih hkk x3
set_option maxHeartbeats 4000000 in
set_option maxRecDepth 100000 in
theorem t_X11_mirror (l : Launch) (D : va_G) (cy : Nat → ClassId) (z : Nat) (o : Nat) (x1 : Int32) : MT l D cy z yX11_mirror cX11_mirror 4 (some .int) 1 40 (F_X11_mirror o x1) vI [.ref o, .int x1] := by
  refine m_enter [(0, .ref o), (1, .int x1)] (by decide) (by first | rfl | simp [lv_args, m_cat, m_ci, m_cl, m_cf, m_cd, m_cr]) (by first | exact Nat.le_of_ble_eq_true rfl | simp [lg_sl, m_cat, m_ci, m_cl, m_cf, m_cd, m_cr]) ?_
  intro p e R s m args below meth c ws0 wsf rr cx hE ws H locs cells slots ls hl hH hF
  obtain ⟨hx, hb, hr, hml, hown, hk, hz, hlocks, hnm, hfr, hlo⟩ := id cx
  unfold F_X11_mirror at hF
  refine lv_aload_n hx hb dX11_mirror_0 rfl (lv_at hl 0 rfl) ?_
  refine lv_iload_n hx hb dX11_mirror_1 rfl (lv_at hl 1 rfl) ?_
  refine m_cVI hx hb hml hown hk hH hE.le hz (F := fun q2 => F_X11_isCurve q2.1 x1) (C := RX11) (T := TX11) (N := 22) rfl (As := [.int x1]) (rest := []) (fun o => t_X11_isCurve l D cy z o x1) hF wd_903 wd_905 wd_38 wd_906 wd_19 yn_X11_isCurve ⟨Nat.le_trans (by decide) hfr, Nat.le_trans (by decide) hlo⟩ hl.1 (by first | exact Nat.le_of_ble_eq_true rfl | simp [m_cat, m_ci, m_cl, m_cf, m_cd, m_cr]) rfl dX11_mirror_2 (fun c1 ws H locs cells slots hH hF => ?_)
  refine lv_if_eq (tgt := 23) hx hb dX11_mirror_5 (by decide) (fun hc2 => ?_) (fun hc2 => ?_)
  · have hF := bq_t hc2 hF
    refine lv_bipush (v := (-2)) hx hb dX11_mirror_23 (by decide) ?_
    exact m_iret hx hb hr hlocks hH hE hF rfl dX11_mirror_25
  · have hF := bq_f hc2 hF
    refine lv_aload_n hx hb dX11_mirror_8 rfl (lv_at hl 0 rfl) ?_
    refine lv_aload_n hx hb dX11_mirror_9 rfl (lv_at hl 0 rfl) ?_
    refine m_gR hx hb hown hk hH hF fk_RX11_work lk_RX11_25 dX11_mirror_10 (fun v4 hF => ?_)
    refine lv_iload_n hx hb dX11_mirror_13 rfl (lv_at hl 1 rfl) ?_
    refine m_aI0 hx hb hk hH hF dX11_mirror_14 (fun v5 hF => ?_)
    refine lv_iconst (v := (1)) hx hb dX11_mirror_15 (by decide) ?_
    refine lv_iadd hx hb dX11_mirror_16 ?_
    refine m_cVI hx hb hml hown hk hH hE.le hz (F := fun q7 => F_X11_mayWork q7.1 (v5 + (1 : Int32))) (C := RX11) (T := TX11) (N := 22) rfl (As := [.int (v5 + (1 : Int32))]) (rest := []) (fun o => t_X11_mayWork l D cy z o (v5 + (1 : Int32))) hF wd_910 wd_912 wd_38 wd_913 wd_20 yn_X11_mayWork ⟨Nat.le_trans (by decide) hfr, Nat.le_trans (by decide) hlo⟩ hl.1 (by first | exact Nat.le_of_ble_eq_true rfl | simp [m_cat, m_ci, m_cl, m_cf, m_cd, m_cr]) rfl dX11_mirror_17 (fun c6 ws H locs cells slots hH hF => ?_)
    refine lv_if_ne (tgt := 26) hx hb dX11_mirror_20 (by decide) (fun hc7 => ?_) (fun hc7 => ?_)
    · have hF := bq_f hc7 hF
      refine lv_aload_n hx hb dX11_mirror_26 rfl (lv_at hl 0 rfl) ?_
      refine lv_bipush (v := (6)) hx hb dX11_mirror_27 (by decide) ?_
      refine lv_aload_n hx hb dX11_mirror_29 rfl (lv_at hl 0 rfl) ?_
      refine m_gR hx hb hown hk hH hF fk_RX11_work lk_RX11_25 dX11_mirror_30 (fun v9 hF => ?_)
      refine lv_iload_n hx hb dX11_mirror_33 rfl (lv_at hl 1 rfl) ?_
      refine m_aI0 hx hb hk hH hF dX11_mirror_34 (fun v10 hF => ?_)
      refine lv_iconst (v := (1)) hx hb dX11_mirror_35 (by decide) ?_
      refine lv_iadd hx hb dX11_mirror_36 ?_
      refine m_cVI hx hb hml hown hk hH hE.le hz (F := fun q12 => F_X11_newCurve q12.1 (6 : Int32) (v10 + (1 : Int32))) (C := RX11) (T := TX11) (N := 22) rfl (As := [.int (6 : Int32), .int (v10 + (1 : Int32))]) (rest := []) (fun o => t_X11_newCurve l D cy z o (6 : Int32) (v10 + (1 : Int32))) hF wd_861 wd_863 wd_38 wd_864 wd_17 yn_X11_newCurve ⟨Nat.le_trans (by decide) hfr, Nat.le_trans (by decide) hlo⟩ hl.1 (by first | exact Nat.le_of_ble_eq_true rfl | simp [m_cat, m_ci, m_cl, m_cf, m_cd, m_cr]) rfl dX11_mirror_37 (fun c11 ws H locs cells slots hH hF => ?_)
      refine lv_istore_n (lv' := [(2, .int c11), (0, .ref o), (1, .int x1)]) hx hb dX11_mirror_40 rfl hl (by decide) (by first | rfl | simp [m_cat, m_ci, m_cl, m_cf, m_cd, m_cr]) (fun ls hl => ?_)
      refine lv_iconst (v := (0)) hx hb dX11_mirror_41 (by decide) ?_
      refine lv_istore_n (lv' := [(3, .int (0 : Int32)), (2, .int c11), (0, .ref o), (1, .int x1)]) hx hb dX11_mirror_42 rfl hl (by decide) (by first | rfl | simp [m_cat, m_ci, m_cl, m_cf, m_cd, m_cr]) (fun ls hl => ?_)
      refine w_X11_mirror_43 cx hE o x1 c11 _ (fun ws H locs cells slots ls hl hH hF => ?_) _ _ _ _ _ _ _ _ (lv_sub hl [2, 3, 1, 0] rfl) hH hF
      refine lv_iload_n hx hb dX11_mirror_78 rfl (lv_at hl 0 rfl) ?_
      exact m_iret hx hb hr hlocks hH hE hF rfl dX11_mirror_79
    · have hF := bq_t hc7 hF
      refine lv_bipush (v := (-2)) hx hb dX11_mirror_23 (by decide) ?_
      exact m_iret hx hb hr hlocks hH hE hF rfl dX11_mirror_25

def F_X11_value (o : Nat) (x1 : Int32) (x2 : Int32) : St (Int32) :=
  bd (dr [10] (some o)) fun q2 => bd (F_X11_isCurve q2.1 x1) fun c1 => br (c1 = 0) (rt (-2000000 : Int32)) (bd (F_X11_isCount x2) fun c4 => br (c4 = 0) (rt (-2000000 : Int32)) (bd (dr [10] (some o)) fun q7 => bd (F_X11_of q7.1 x1 x2) fun c6 => rt c6))
set_option maxHeartbeats 4000000 in
set_option maxRecDepth 100000 in
theorem t_X11_value (l : Launch) (D : va_G) (cy : Nat → ClassId) (z : Nat) (o : Nat) (x1 : Int32) (x2 : Int32) : MT l D cy z yX11_value cX11_value 3 (some .int) 1 40 (F_X11_value o x1 x2) vI [.ref o, .int x1, .int x2] := by
  refine m_enter [(0, .ref o), (1, .int x1), (2, .int x2)] (by decide) (by first | rfl | simp [lv_args, m_cat, m_ci, m_cl, m_cf, m_cd, m_cr]) (by first | exact Nat.le_of_ble_eq_true rfl | simp [lg_sl, m_cat, m_ci, m_cl, m_cf, m_cd, m_cr]) ?_
  intro p e R s m args below meth c ws0 wsf rr cx hE ws H locs cells slots ls hl hH hF
  obtain ⟨hx, hb, hr, hml, hown, hk, hz, hlocks, hnm, hfr, hlo⟩ := id cx
  unfold F_X11_value at hF
  refine lv_aload_n hx hb dX11_value_0 rfl (lv_at hl 0 rfl) ?_
  refine lv_iload_n hx hb dX11_value_1 rfl (lv_at hl 1 rfl) ?_
  refine m_cVI hx hb hml hown hk hH hE.le hz (F := fun q2 => F_X11_isCurve q2.1 x1) (C := RX11) (T := TX11) (N := 22) rfl (As := [.int x1]) (rest := []) (fun o => t_X11_isCurve l D cy z o x1) hF wd_903 wd_905 wd_38 wd_906 wd_19 yn_X11_isCurve ⟨Nat.le_trans (by decide) hfr, Nat.le_trans (by decide) hlo⟩ hl.1 (by first | exact Nat.le_of_ble_eq_true rfl | simp [m_cat, m_ci, m_cl, m_cf, m_cd, m_cr]) rfl dX11_value_2 (fun c1 ws H locs cells slots hH hF => ?_)
  refine lv_if_eq (tgt := 24) hx hb dX11_value_5 (by decide) (fun hc2 => ?_) (fun hc2 => ?_)
  · have hF := bq_t hc2 hF
    refine lv_ldc hx hb hown (hk.wd wd_938 args) dX11_value_24 ?_
    exact m_iret hx hb hr hlocks hH hE hF rfl dX11_value_26
  · have hF := bq_f hc2 hF
    refine lv_iload_n hx hb dX11_value_8 rfl (lv_at hl 2 rfl) ?_
    refine m_cSI hx hb hml hown hk hH hE.le hz (As := [.int x2]) (rest := []) (t_X11_isCount l D cy z x2) hF wd_846 wd_847 wd_38 wd_848 yn_X11_isCount ⟨Nat.le_trans (by decide) hfr, Nat.le_trans (by decide) hlo⟩ hl.1 (by first | exact Nat.le_of_ble_eq_true rfl | simp [m_cat, m_ci, m_cl, m_cf, m_cd, m_cr]) rfl dX11_value_9 (fun c4 ws H locs cells slots hH hF => ?_)
    refine lv_if_eq (tgt := 24) hx hb dX11_value_12 (by decide) (fun hc4 => ?_) (fun hc4 => ?_)
    · have hF := bq_t hc4 hF
      refine lv_ldc hx hb hown (hk.wd wd_938 args) dX11_value_24 ?_
      exact m_iret hx hb hr hlocks hH hE hF rfl dX11_value_26
    · have hF := bq_f hc4 hF
      refine lv_aload_n hx hb dX11_value_15 rfl (lv_at hl 0 rfl) ?_
      refine lv_iload_n hx hb dX11_value_16 rfl (lv_at hl 1 rfl) ?_
      refine lv_iload_n hx hb dX11_value_17 rfl (lv_at hl 2 rfl) ?_
      refine m_cVI hx hb hml hown hk hH hE.le hz (F := fun q7 => F_X11_of q7.1 x1 x2) (C := RX11) (T := TX11) (N := 22) rfl (As := [.int x1, .int x2]) (rest := []) (fun o => t_X11_of l D cy z o x1 x2) hF wd_914 wd_916 wd_38 wd_917 wd_21 yn_X11_of ⟨Nat.le_trans (by decide) hfr, Nat.le_trans (by decide) hlo⟩ hl.1 (by first | exact Nat.le_of_ble_eq_true rfl | simp [m_cat, m_ci, m_cl, m_cf, m_cd, m_cr]) rfl dX11_value_18 (fun c6 ws H locs cells slots hH hF => ?_)
      refine lv_goto (tgt := 26) hx hb dX11_value_21 (by decide) ?_
      exact m_iret hx hb hr hlocks hH hE hF rfl dX11_value_26

def j_X11_way_67 (rec : Int32 → Int32 → Int32 → St (Int32)) (k : Int32 → Int32 → St (Int32)) (x0 : Nat) (x1 : Int32) (x2 : Int32) (x4 : Int32) (s0 : Int32) (s1 : Int32) : St (Int32) :=
  bd (rt (s0 ||| s1)) fun v13 => rec x2 v13 (x4 + (1 : Int32))
def j_X11_way_40 (rec : Int32 → Int32 → Int32 → St (Int32)) (k : Int32 → Int32 → St (Int32)) (x0 : Nat) (x1 : Int32) (x3 : Int32) (x4 : Int32) (s0 : Int32) (s1 : Int32) : St (Int32) :=
  bd (rt (s0 ||| s1)) fun v7 => bd (dr [10] (some x0)) fun q9 => bd (F_X11_of q9.1 x1 x4) fun c8 => bd (dr [10] (some x0)) fun q11 => bd (F_X11_of q11.1 x1 (x4 - (1 : Int32))) fun c10 => br (c10 ≤ c8) (j_X11_way_67 rec k x0 x1 v7 x4 x3 (0 : Int32)) (j_X11_way_67 rec k x0 x1 v7 x4 x3 (1 : Int32))
def b_X11_way_7 (x0 : Nat) (x1 : Int32) (rec : Int32 → Int32 → Int32 → St (Int32)) (k : Int32 → Int32 → St (Int32)) (x2 : Int32) (x3 : Int32) (x4 : Int32) : St (Int32) :=
  br ((4096 : Int32) ≤ x4) (k x2 x3) (bd (dr [10] (some x0)) fun q3 => bd (F_X11_of q3.1 x1 x4) fun c2 => bd (dr [10] (some x0)) fun q5 => bd (F_X11_of q5.1 x1 (x4 - (1 : Int32))) fun c4 => br (c2 ≤ c4) (j_X11_way_40 rec k x0 x1 x3 x4 x2 (0 : Int32)) (j_X11_way_40 rec k x0 x1 x3 x4 x2 (1 : Int32)))
def l_X11_way_7 (x0 : Nat) (x1 : Int32) (k : Int32 → Int32 → St (Int32)) : Nat → Int32 → Int32 → Int32 → St (Int32)
  | 0 => fun _ _ _ => fl
  | n + 1 => fun x2 x3 x4 => b_X11_way_7 x0 x1 (l_X11_way_7 x0 x1 k n) k x2 x3 x4
def j_X11_way_87 (x2 : Int32) (x3 : Int32) : St (Int32) :=
  br (x2 = 0) (br (x3 = 0) (rt (2 : Int32)) (rt (-1 : Int32))) (rt (1 : Int32))
def F_X11_way (o : Nat) (x1 : Int32) : St (Int32) :=
  l_X11_way_7 o x1 (fun (e14 : Int32) (e15 : Int32) => br (e14 = 0) (j_X11_way_87 e14 e15) (br (e15 = 0) (j_X11_way_87 e14 e15) (rt (0 : Int32)))) FU (0 : Int32) (0 : Int32) (1 : Int32)
set_option maxHeartbeats 4000000 in
set_option maxRecDepth 100000 in
theorem w_X11_way_67 {l : Launch} {D : va_G} {cy : Nat → ClassId} {z : Nat} {p : Program} {e : Env} {R : Room} {s : State} {m : MethodId} {args : Array Value} {below : List Frame} {meth : Method} {c : Code} {ws0 wsf : WS} {rr : Int32} (cx : Cx D cy z RX11 cX11_way 5 (some .int) 1 40 "way" p R s m meth c) (hE : AC ws0 wsf R.cells R.slots) (rec : Int32 → Int32 → Int32 → St (Int32)) (k : Int32 → Int32 → St (Int32)) (x0 : Nat) (x1 : Int32) (hrec : ∀ (x2 : Int32) (x3 : Int32) (x4 : Int32), At_ l D cy z p e R s m args below meth c ws0 wsf vI rr 5 7 [(0, .ref x0), (1, .int x1), (2, .int x2), (3, .int x3), (4, .int x4)] [] (rec x2 x3 x4)) (hkk : ∀ (x2 : Int32) (x3 : Int32), At_ l D cy z p e R s m args below meth c ws0 wsf vI rr 5 75 [(2, .int x2), (3, .int x3)] [] (k x2 x3)) (x2 : Int32) (x4 : Int32) (s0 : Int32) (s1 : Int32) : At_ l D cy z p e R s m args below meth c ws0 wsf vI rr 5 67 [(0, .ref x0), (1, .int x1), (2, .int x2), (4, .int x4)] [.int s1, .int s0] (j_X11_way_67 rec k x0 x1 x2 x4 s0 s1) := by
  intro ws H locs cells slots ls hl hH hF
  obtain ⟨hx, hb, hr, hml, hown, hk, hz, hlocks, hnm, hfr, hlo⟩ := id cx
  unfold j_X11_way_67 at hF
  refine lv_ior hx hb dX11_way_67 ?_
  refine lv_topi (fun v13 hv13 => ?_)
  have hF := rt_t hv13 hF
  refine lv_istore_n (lv' := [(3, .int v13), (0, .ref x0), (1, .int x1), (2, .int x2), (4, .int x4)]) hx hb dX11_way_68 rfl hl (by decide) (by first | rfl | simp [m_cat, m_ci, m_cl, m_cf, m_cd, m_cr]) (fun ls hl => ?_)
  refine lv_iinc (v := (x4 + (1 : Int32))) (lv' := [(4, .int (x4 + (1 : Int32))), (3, .int v13), (0, .ref x0), (1, .int x1), (2, .int x2)]) hx hb dX11_way_69 hl (k := 4) rfl (by first | rfl | (congr 1)) (by decide) (by first | rfl | simp [m_cat, m_ci, m_cl, m_cf, m_cd, m_cr]) (fun ls hl => ?_)
  refine lv_goto (tgt := 7) hx hb dX11_way_72 (by decide) ?_
  exact hrec _ _ _ _ _ _ _ _ _ (lv_sub hl [2, 3, 4, 1, 0] rfl) hH hF
set_option maxHeartbeats 4000000 in
set_option maxRecDepth 100000 in
theorem w_X11_way_40 {l : Launch} {D : va_G} {cy : Nat → ClassId} {z : Nat} {p : Program} {e : Env} {R : Room} {s : State} {m : MethodId} {args : Array Value} {below : List Frame} {meth : Method} {c : Code} {ws0 wsf : WS} {rr : Int32} (cx : Cx D cy z RX11 cX11_way 5 (some .int) 1 40 "way" p R s m meth c) (hE : AC ws0 wsf R.cells R.slots) (rec : Int32 → Int32 → Int32 → St (Int32)) (k : Int32 → Int32 → St (Int32)) (x0 : Nat) (x1 : Int32) (hrec : ∀ (x2 : Int32) (x3 : Int32) (x4 : Int32), At_ l D cy z p e R s m args below meth c ws0 wsf vI rr 5 7 [(0, .ref x0), (1, .int x1), (2, .int x2), (3, .int x3), (4, .int x4)] [] (rec x2 x3 x4)) (hkk : ∀ (x2 : Int32) (x3 : Int32), At_ l D cy z p e R s m args below meth c ws0 wsf vI rr 5 75 [(2, .int x2), (3, .int x3)] [] (k x2 x3)) (x3 : Int32) (x4 : Int32) (s0 : Int32) (s1 : Int32) : At_ l D cy z p e R s m args below meth c ws0 wsf vI rr 5 40 [(0, .ref x0), (1, .int x1), (3, .int x3), (4, .int x4)] [.int s1, .int s0] (j_X11_way_40 rec k x0 x1 x3 x4 s0 s1) := by
  intro ws H locs cells slots ls hl hH hF
  obtain ⟨hx, hb, hr, hml, hown, hk, hz, hlocks, hnm, hfr, hlo⟩ := id cx
  unfold j_X11_way_40 at hF
  refine lv_ior hx hb dX11_way_40 ?_
  refine lv_topi (fun v7 hv7 => ?_)
  have hF := rt_t hv7 hF
  refine lv_istore_n (lv' := [(2, .int v7), (0, .ref x0), (1, .int x1), (3, .int x3), (4, .int x4)]) hx hb dX11_way_41 rfl hl (by decide) (by first | rfl | simp [m_cat, m_ci, m_cl, m_cf, m_cd, m_cr]) (fun ls hl => ?_)
  refine lv_iload_n hx hb dX11_way_42 rfl (lv_at hl 3 rfl) ?_
  refine lv_aload_n hx hb dX11_way_43 rfl (lv_at hl 1 rfl) ?_
  refine lv_iload_n hx hb dX11_way_44 rfl (lv_at hl 2 rfl) ?_
  refine lv_iload hx hb dX11_way_45 (lv_at hl 4 rfl) ?_
  refine m_cVI hx hb hml hown hk hH hE.le hz (F := fun q9 => F_X11_of q9.1 x1 x4) (C := RX11) (T := TX11) (N := 22) rfl (As := [.int x1, .int x4]) (rest := [.int x3]) (fun o => t_X11_of l D cy z o x1 x4) hF wd_914 wd_916 wd_38 wd_917 wd_21 yn_X11_of ⟨Nat.le_trans (by decide) hfr, Nat.le_trans (by decide) hlo⟩ hl.1 (by first | exact Nat.le_of_ble_eq_true rfl | simp [m_cat, m_ci, m_cl, m_cf, m_cd, m_cr]) rfl dX11_way_47 (fun c8 ws H locs cells slots hH hF => ?_)
  refine lv_aload_n hx hb dX11_way_50 rfl (lv_at hl 1 rfl) ?_
  refine lv_iload_n hx hb dX11_way_51 rfl (lv_at hl 2 rfl) ?_
  refine lv_iload hx hb dX11_way_52 (lv_at hl 4 rfl) ?_
  refine lv_iconst (v := (1)) hx hb dX11_way_54 (by decide) ?_
  refine lv_isub hx hb dX11_way_55 ?_
  refine m_cVI hx hb hml hown hk hH hE.le hz (F := fun q11 => F_X11_of q11.1 x1 (x4 - (1 : Int32))) (C := RX11) (T := TX11) (N := 22) rfl (As := [.int x1, .int (x4 - (1 : Int32))]) (rest := [.int c8, .int x3]) (fun o => t_X11_of l D cy z o x1 (x4 - (1 : Int32))) hF wd_914 wd_916 wd_38 wd_917 wd_21 yn_X11_of ⟨Nat.le_trans (by decide) hfr, Nat.le_trans (by decide) hlo⟩ hl.1 (by first | exact Nat.le_of_ble_eq_true rfl | simp [m_cat, m_ci, m_cl, m_cf, m_cd, m_cr]) rfl dX11_way_56 (fun c10 ws H locs cells slots hH hF => ?_)
  refine lv_icmp_ge (tgt := 66) hx hb dX11_way_59 (by decide) (fun hc11 => ?_) (fun hc11 => ?_)
  · have hF := bq_t hc11 hF
    refine lv_iconst (v := (0)) hx hb dX11_way_66 (by decide) ?_
    exact w_X11_way_67 cx hE _ _ x0 x1 hrec hkk v7 x4 x3 (0 : Int32) _ _ _ _ _ _ (lv_sub hl [1, 2, 0, 4] rfl) hH hF
  · have hF := bq_f hc11 hF
    refine lv_iconst (v := (1)) hx hb dX11_way_62 (by decide) ?_
    refine lv_goto (tgt := 67) hx hb dX11_way_63 (by decide) ?_
    exact w_X11_way_67 cx hE _ _ x0 x1 hrec hkk v7 x4 x3 (1 : Int32) _ _ _ _ _ _ (lv_sub hl [1, 2, 0, 4] rfl) hH hF
set_option maxHeartbeats 4000000 in
set_option maxRecDepth 100000 in
theorem wb_X11_way_7 {l : Launch} {D : va_G} {cy : Nat → ClassId} {z : Nat} {p : Program} {e : Env} {R : Room} {s : State} {m : MethodId} {args : Array Value} {below : List Frame} {meth : Method} {c : Code} {ws0 wsf : WS} {rr : Int32} (cx : Cx D cy z RX11 cX11_way 5 (some .int) 1 40 "way" p R s m meth c) (hE : AC ws0 wsf R.cells R.slots) (x0 : Nat) (x1 : Int32) (rec : Int32 → Int32 → Int32 → St (Int32)) (k : Int32 → Int32 → St (Int32)) (hrec : ∀ (x2 : Int32) (x3 : Int32) (x4 : Int32), At_ l D cy z p e R s m args below meth c ws0 wsf vI rr 5 7 [(0, .ref x0), (1, .int x1), (2, .int x2), (3, .int x3), (4, .int x4)] [] (rec x2 x3 x4)) (hkk : ∀ (x2 : Int32) (x3 : Int32), At_ l D cy z p e R s m args below meth c ws0 wsf vI rr 5 75 [(2, .int x2), (3, .int x3)] [] (k x2 x3)) (x2 : Int32) (x3 : Int32) (x4 : Int32) : At_ l D cy z p e R s m args below meth c ws0 wsf vI rr 5 7 [(0, .ref x0), (1, .int x1), (2, .int x2), (3, .int x3), (4, .int x4)] [] (b_X11_way_7 x0 x1 rec k x2 x3 x4) := by
  intro ws H locs cells slots ls hl hH hF
  obtain ⟨hx, hb, hr, hml, hown, hk, hz, hlocks, hnm, hfr, hlo⟩ := id cx
  unfold b_X11_way_7 at hF
  refine lv_iload hx hb dX11_way_7 (lv_at hl 4 rfl) ?_
  refine lv_sipush (v := (4096)) hx hb dX11_way_9 (by decide) ?_
  refine lv_icmp_ge (tgt := 75) hx hb dX11_way_12 (by decide) (fun hc0 => ?_) (fun hc0 => ?_)
  · have hF := bq_t hc0 hF
    exact hkk _ _ _ _ _ _ _ _ (lv_sub hl [2, 3] rfl) hH hF
  · have hF := bq_f hc0 hF
    refine lv_iload_n hx hb dX11_way_15 rfl (lv_at hl 2 rfl) ?_
    refine lv_aload_n hx hb dX11_way_16 rfl (lv_at hl 0 rfl) ?_
    refine lv_iload_n hx hb dX11_way_17 rfl (lv_at hl 1 rfl) ?_
    refine lv_iload hx hb dX11_way_18 (lv_at hl 4 rfl) ?_
    refine m_cVI hx hb hml hown hk hH hE.le hz (F := fun q3 => F_X11_of q3.1 x1 x4) (C := RX11) (T := TX11) (N := 22) rfl (As := [.int x1, .int x4]) (rest := [.int x2]) (fun o => t_X11_of l D cy z o x1 x4) hF wd_914 wd_916 wd_38 wd_917 wd_21 yn_X11_of ⟨Nat.le_trans (by decide) hfr, Nat.le_trans (by decide) hlo⟩ hl.1 (by first | exact Nat.le_of_ble_eq_true rfl | simp [m_cat, m_ci, m_cl, m_cf, m_cd, m_cr]) rfl dX11_way_20 (fun c2 ws H locs cells slots hH hF => ?_)
    refine lv_aload_n hx hb dX11_way_23 rfl (lv_at hl 0 rfl) ?_
    refine lv_iload_n hx hb dX11_way_24 rfl (lv_at hl 1 rfl) ?_
    refine lv_iload hx hb dX11_way_25 (lv_at hl 4 rfl) ?_
    refine lv_iconst (v := (1)) hx hb dX11_way_27 (by decide) ?_
    refine lv_isub hx hb dX11_way_28 ?_
    refine m_cVI hx hb hml hown hk hH hE.le hz (F := fun q5 => F_X11_of q5.1 x1 (x4 - (1 : Int32))) (C := RX11) (T := TX11) (N := 22) rfl (As := [.int x1, .int (x4 - (1 : Int32))]) (rest := [.int c2, .int x2]) (fun o => t_X11_of l D cy z o x1 (x4 - (1 : Int32))) hF wd_914 wd_916 wd_38 wd_917 wd_21 yn_X11_of ⟨Nat.le_trans (by decide) hfr, Nat.le_trans (by decide) hlo⟩ hl.1 (by first | exact Nat.le_of_ble_eq_true rfl | simp [m_cat, m_ci, m_cl, m_cf, m_cd, m_cr]) rfl dX11_way_29 (fun c4 ws H locs cells slots hH hF => ?_)
    refine lv_icmp_le (tgt := 39) hx hb dX11_way_32 (by decide) (fun hc5 => ?_) (fun hc5 => ?_)
    · have hF := bq_t hc5 hF
      refine lv_iconst (v := (0)) hx hb dX11_way_39 (by decide) ?_
      exact w_X11_way_40 cx hE _ _ x0 x1 hrec hkk x3 x4 x2 (0 : Int32) _ _ _ _ _ _ (lv_sub hl [0, 1, 3, 4] rfl) hH hF
    · have hF := bq_f hc5 hF
      refine lv_iconst (v := (1)) hx hb dX11_way_35 (by decide) ?_
      refine lv_goto (tgt := 40) hx hb dX11_way_36 (by decide) ?_
      exact w_X11_way_40 cx hE _ _ x0 x1 hrec hkk x3 x4 x2 (1 : Int32) _ _ _ _ _ _ (lv_sub hl [0, 1, 3, 4] rfl) hH hF
theorem w_X11_way_7 {l : Launch} {D : va_G} {cy : Nat → ClassId} {z : Nat} {p : Program} {e : Env} {R : Room} {s : State} {m : MethodId} {args : Array Value} {below : List Frame} {meth : Method} {c : Code} {ws0 wsf : WS} {rr : Int32} (cx : Cx D cy z RX11 cX11_way 5 (some .int) 1 40 "way" p R s m meth c) (hE : AC ws0 wsf R.cells R.slots) (x0 : Nat) (x1 : Int32) (k : Int32 → Int32 → St (Int32)) (hkk : ∀ (x2 : Int32) (x3 : Int32), At_ l D cy z p e R s m args below meth c ws0 wsf vI rr 5 75 [(2, .int x2), (3, .int x3)] [] (k x2 x3)) : ∀ (n : Nat) (x2 : Int32) (x3 : Int32) (x4 : Int32), At_ l D cy z p e R s m args below meth c ws0 wsf vI rr 5 7 [(0, .ref x0), (1, .int x1), (2, .int x2), (3, .int x3), (4, .int x4)] [] (l_X11_way_7 x0 x1 k n x2 x3 x4) := by
  intro n
  induction n with
  | zero =>
    intro x2 x3 x4 ws H locs cells slots ls hl hH hF
    exact fl_t hF
  | succ n ih =>
    intro x2 x3 x4
    exact wb_X11_way_7 cx hE x0 x1 (l_X11_way_7 x0 x1 k n) k ih hkk x2 x3 x4
set_option maxHeartbeats 4000000 in
set_option maxRecDepth 100000 in
theorem w_X11_way_87 {l : Launch} {D : va_G} {cy : Nat → ClassId} {z : Nat} {p : Program} {e : Env} {R : Room} {s : State} {m : MethodId} {args : Array Value} {below : List Frame} {meth : Method} {c : Code} {ws0 wsf : WS} {rr : Int32} (cx : Cx D cy z RX11 cX11_way 5 (some .int) 1 40 "way" p R s m meth c) (hE : AC ws0 wsf R.cells R.slots) (x2 : Int32) (x3 : Int32) : At_ l D cy z p e R s m args below meth c ws0 wsf vI rr 5 87 [(2, .int x2), (3, .int x3)] [] (j_X11_way_87 x2 x3) := by
  intro ws H locs cells slots ls hl hH hF
  obtain ⟨hx, hb, hr, hml, hown, hk, hz, hlocks, hnm, hfr, hlo⟩ := id cx
  unfold j_X11_way_87 at hF
  refine lv_iload_n hx hb dX11_way_87 rfl (lv_at hl 0 rfl) ?_
  refine lv_if_eq (tgt := 95) hx hb dX11_way_88 (by decide) (fun hc16 => ?_) (fun hc16 => ?_)
  · have hF := bq_t hc16 hF
    refine lv_iload_n hx hb dX11_way_95 rfl (lv_at hl 1 rfl) ?_
    refine lv_if_eq (tgt := 103) hx hb dX11_way_96 (by decide) (fun hc17 => ?_) (fun hc17 => ?_)
    · have hF := bq_t hc17 hF
      refine lv_iconst (v := (2)) hx hb dX11_way_103 (by decide) ?_
      exact m_iret hx hb hr hlocks hH hE hF rfl dX11_way_104
    · have hF := bq_f hc17 hF
      refine lv_iconst (v := (-1)) hx hb dX11_way_99 (by decide) ?_
      refine lv_goto (tgt := 104) hx hb dX11_way_100 (by decide) ?_
      exact m_iret hx hb hr hlocks hH hE hF rfl dX11_way_104
  · have hF := bq_f hc16 hF
    refine lv_iconst (v := (1)) hx hb dX11_way_91 (by decide) ?_
    refine lv_goto (tgt := 104) hx hb dX11_way_92 (by decide) ?_
    exact m_iret hx hb hr hlocks hH hE hF rfl dX11_way_104
set_option maxHeartbeats 4000000 in
set_option maxRecDepth 100000 in
theorem t_X11_way (l : Launch) (D : va_G) (cy : Nat → ClassId) (z : Nat) (o : Nat) (x1 : Int32) : MT l D cy z yX11_way cX11_way 5 (some .int) 1 40 (F_X11_way o x1) vI [.ref o, .int x1] := by
  refine m_enter [(0, .ref o), (1, .int x1)] (by decide) (by first | rfl | simp [lv_args, m_cat, m_ci, m_cl, m_cf, m_cd, m_cr]) (by first | exact Nat.le_of_ble_eq_true rfl | simp [lg_sl, m_cat, m_ci, m_cl, m_cf, m_cd, m_cr]) ?_
  intro p e R s m args below meth c ws0 wsf rr cx hE ws H locs cells slots ls hl hH hF
  obtain ⟨hx, hb, hr, hml, hown, hk, hz, hlocks, hnm, hfr, hlo⟩ := id cx
  unfold F_X11_way at hF
  refine lv_iconst (v := (0)) hx hb dX11_way_0 (by decide) ?_
  refine lv_istore_n (lv' := [(2, .int (0 : Int32)), (0, .ref o), (1, .int x1)]) hx hb dX11_way_1 rfl hl (by decide) (by first | rfl | simp [m_cat, m_ci, m_cl, m_cf, m_cd, m_cr]) (fun ls hl => ?_)
  refine lv_iconst (v := (0)) hx hb dX11_way_2 (by decide) ?_
  refine lv_istore_n (lv' := [(3, .int (0 : Int32)), (2, .int (0 : Int32)), (0, .ref o), (1, .int x1)]) hx hb dX11_way_3 rfl hl (by decide) (by first | rfl | simp [m_cat, m_ci, m_cl, m_cf, m_cd, m_cr]) (fun ls hl => ?_)
  refine lv_iconst (v := (1)) hx hb dX11_way_4 (by decide) ?_
  refine lv_istore (lv' := [(4, .int (1 : Int32)), (3, .int (0 : Int32)), (2, .int (0 : Int32)), (0, .ref o), (1, .int x1)]) hx hb dX11_way_5 hl (by decide) (by first | rfl | simp [m_cat, m_ci, m_cl, m_cf, m_cd, m_cr]) (fun ls hl => ?_)
  refine w_X11_way_7 cx hE o x1 _ (fun e14 e15 ws H locs cells slots ls hl hH hF => ?_) _ _ _ _ _ _ _ _ _ _ (lv_sub hl [3, 4, 2, 1, 0] rfl) hH hF
  refine lv_iload_n hx hb dX11_way_75 rfl (lv_at hl 0 rfl) ?_
  refine lv_if_eq (tgt := 87) hx hb dX11_way_76 (by decide) (fun hc15 => ?_) (fun hc15 => ?_)
  · have hF := bq_t hc15 hF
    exact w_X11_way_87 cx hE e14 e15 _ _ _ _ _ _ (lv_sub hl [0, 1] rfl) hH hF
  · have hF := bq_f hc15 hF
    refine lv_iload_n hx hb dX11_way_79 rfl (lv_at hl 1 rfl) ?_
    refine lv_if_eq (tgt := 87) hx hb dX11_way_80 (by decide) (fun hc18 => ?_) (fun hc18 => ?_)
    · have hF := bq_t hc18 hF
      exact w_X11_way_87 cx hE e14 e15 _ _ _ _ _ _ (lv_sub hl [0, 1] rfl) hH hF
    · have hF := bq_f hc18 hF
      refine lv_iconst (v := (0)) hx hb dX11_way_83 (by decide) ?_
      refine lv_goto (tgt := 104) hx hb dX11_way_84 (by decide) ?_
      exact m_iret hx hb hr hlocks hH hE hF rfl dX11_way_104

def j_X11_turning_100 (rec : Int32 → Int32 → Int32 → St (Int32)) (k : Int32 → St (Int32)) (x0 : Nat) (x1 : Int32) (x2 : Int32) (x4 : Int32) (x5 : Int32) (s0 : Int32) : St (Int32) :=
  rec s0 x4 (x5 + (1 : Int32))
def j_X11_turning_89 (rec : Int32 → Int32 → Int32 → St (Int32)) (k : Int32 → St (Int32)) (x0 : Nat) (x1 : Int32) (x2 : Int32) (x3 : Int32) (x4 : Int32) (x5 : Int32) (x6 : Int32) : St (Int32) :=
  br (x6 = 0) (j_X11_turning_100 rec k x0 x1 x2 x4 x5 x3) (j_X11_turning_100 rec k x0 x1 x2 x4 x5 x6)
def j_X11_turning_63 (rec : Int32 → Int32 → Int32 → St (Int32)) (k : Int32 → St (Int32)) (x0 : Nat) (x1 : Int32) (x2 : Int32) (x3 : Int32) (x4 : Int32) (x5 : Int32) (s0 : Int32) : St (Int32) :=
  br (s0 = 0) (j_X11_turning_89 rec k x0 x1 x2 x3 x4 x5 s0) (br (x3 = (-s0)) (br (x4 = x2) (rt x5) (j_X11_turning_89 rec k x0 x1 x2 x3 (x4 + (1 : Int32)) x5 s0)) (j_X11_turning_89 rec k x0 x1 x2 x3 x4 x5 s0))
def b_X11_turning_8 (x0 : Nat) (x1 : Int32) (x2 : Int32) (rec : Int32 → Int32 → Int32 → St (Int32)) (k : Int32 → St (Int32)) (x3 : Int32) (x4 : Int32) (x5 : Int32) : St (Int32) :=
  br ((4096 : Int32) ≤ x5) (k x4) (bd (dr [10] (some x0)) fun q3 => bd (F_X11_of q3.1 x1 x5) fun c2 => bd (dr [10] (some x0)) fun q5 => bd (F_X11_of q5.1 x1 (x5 - (1 : Int32))) fun c4 => br (c2 ≤ c4) (bd (dr [10] (some x0)) fun q8 => bd (F_X11_of q8.1 x1 x5) fun c7 => bd (dr [10] (some x0)) fun q10 => bd (F_X11_of q10.1 x1 (x5 - (1 : Int32))) fun c9 => br (c9 ≤ c7) (j_X11_turning_63 rec k x0 x1 x2 x3 x4 x5 (0 : Int32)) (j_X11_turning_63 rec k x0 x1 x2 x3 x4 x5 (-1 : Int32))) (j_X11_turning_63 rec k x0 x1 x2 x3 x4 x5 (1 : Int32)))
def l_X11_turning_8 (x0 : Nat) (x1 : Int32) (x2 : Int32) (k : Int32 → St (Int32)) : Nat → Int32 → Int32 → Int32 → St (Int32)
  | 0 => fun _ _ _ => fl
  | n + 1 => fun x3 x4 x5 => b_X11_turning_8 x0 x1 x2 (l_X11_turning_8 x0 x1 x2 k n) k x3 x4 x5
def F_X11_turning (o : Nat) (x1 : Int32) (x2 : Int32) : St (Int32) :=
  l_X11_turning_8 o x1 x2 (fun (e16 : Int32) => br (0 ≤ x2) (rt (-1 : Int32)) (rt (e16 - (1 : Int32)))) FU (0 : Int32) (0 : Int32) (1 : Int32)
set_option maxHeartbeats 4000000 in
set_option maxRecDepth 100000 in
theorem w_X11_turning_100 {l : Launch} {D : va_G} {cy : Nat → ClassId} {z : Nat} {p : Program} {e : Env} {R : Room} {s : State} {m : MethodId} {args : Array Value} {below : List Frame} {meth : Method} {c : Code} {ws0 wsf : WS} {rr : Int32} (cx : Cx D cy z RX11 cX11_turning 7 (some .int) 1 40 "turning" p R s m meth c) (hE : AC ws0 wsf R.cells R.slots) (rec : Int32 → Int32 → Int32 → St (Int32)) (k : Int32 → St (Int32)) (x0 : Nat) (x1 : Int32) (x2 : Int32) (hrec : ∀ (x3 : Int32) (x4 : Int32) (x5 : Int32), At_ l D cy z p e R s m args below meth c ws0 wsf vI rr 7 8 [(0, .ref x0), (1, .int x1), (2, .int x2), (3, .int x3), (4, .int x4), (5, .int x5)] [] (rec x3 x4 x5)) (hkk : ∀ (x4 : Int32), At_ l D cy z p e R s m args below meth c ws0 wsf vI rr 7 107 [(2, .int x2), (4, .int x4)] [] (k x4)) (x4 : Int32) (x5 : Int32) (s0 : Int32) : At_ l D cy z p e R s m args below meth c ws0 wsf vI rr 7 100 [(0, .ref x0), (1, .int x1), (2, .int x2), (4, .int x4), (5, .int x5)] [.int s0] (j_X11_turning_100 rec k x0 x1 x2 x4 x5 s0) := by
  intro ws H locs cells slots ls hl hH hF
  obtain ⟨hx, hb, hr, hml, hown, hk, hz, hlocks, hnm, hfr, hlo⟩ := id cx
  unfold j_X11_turning_100 at hF
  refine lv_istore_n (lv' := [(3, .int s0), (0, .ref x0), (1, .int x1), (2, .int x2), (4, .int x4), (5, .int x5)]) hx hb dX11_turning_100 rfl hl (by decide) (by first | rfl | simp [m_cat, m_ci, m_cl, m_cf, m_cd, m_cr]) (fun ls hl => ?_)
  refine lv_iinc (v := (x5 + (1 : Int32))) (lv' := [(5, .int (x5 + (1 : Int32))), (3, .int s0), (0, .ref x0), (1, .int x1), (2, .int x2), (4, .int x4)]) hx hb dX11_turning_101 hl (k := 5) rfl (by first | rfl | (congr 1)) (by decide) (by first | rfl | simp [m_cat, m_ci, m_cl, m_cf, m_cd, m_cr]) (fun ls hl => ?_)
  refine lv_goto (tgt := 8) hx hb dX11_turning_104 (by decide) ?_
  exact hrec _ _ _ _ _ _ _ _ _ (lv_sub hl [2, 3, 4, 1, 5, 0] rfl) hH hF
set_option maxHeartbeats 4000000 in
set_option maxRecDepth 100000 in
theorem w_X11_turning_89 {l : Launch} {D : va_G} {cy : Nat → ClassId} {z : Nat} {p : Program} {e : Env} {R : Room} {s : State} {m : MethodId} {args : Array Value} {below : List Frame} {meth : Method} {c : Code} {ws0 wsf : WS} {rr : Int32} (cx : Cx D cy z RX11 cX11_turning 7 (some .int) 1 40 "turning" p R s m meth c) (hE : AC ws0 wsf R.cells R.slots) (rec : Int32 → Int32 → Int32 → St (Int32)) (k : Int32 → St (Int32)) (x0 : Nat) (x1 : Int32) (x2 : Int32) (hrec : ∀ (x3 : Int32) (x4 : Int32) (x5 : Int32), At_ l D cy z p e R s m args below meth c ws0 wsf vI rr 7 8 [(0, .ref x0), (1, .int x1), (2, .int x2), (3, .int x3), (4, .int x4), (5, .int x5)] [] (rec x3 x4 x5)) (hkk : ∀ (x4 : Int32), At_ l D cy z p e R s m args below meth c ws0 wsf vI rr 7 107 [(2, .int x2), (4, .int x4)] [] (k x4)) (x3 : Int32) (x4 : Int32) (x5 : Int32) (x6 : Int32) : At_ l D cy z p e R s m args below meth c ws0 wsf vI rr 7 89 [(0, .ref x0), (1, .int x1), (2, .int x2), (3, .int x3), (4, .int x4), (5, .int x5), (6, .int x6)] [] (j_X11_turning_89 rec k x0 x1 x2 x3 x4 x5 x6) := by
  intro ws H locs cells slots ls hl hH hF
  obtain ⟨hx, hb, hr, hml, hown, hk, hz, hlocks, hnm, hfr, hlo⟩ := id cx
  unfold j_X11_turning_89 at hF
  refine lv_iload hx hb dX11_turning_89 (lv_at hl 6 rfl) ?_
  refine lv_if_ne (tgt := 98) hx hb dX11_turning_91 (by decide) (fun hc12 => ?_) (fun hc12 => ?_)
  · have hF := bq_f hc12 hF
    refine lv_iload hx hb dX11_turning_98 (lv_at hl 6 rfl) ?_
    exact w_X11_turning_100 cx hE _ _ x0 x1 x2 hrec hkk x4 x5 x6 _ _ _ _ _ _ (lv_sub hl [0, 1, 2, 4, 5] rfl) hH hF
  · have hF := bq_t hc12 hF
    refine lv_iload_n hx hb dX11_turning_94 rfl (lv_at hl 3 rfl) ?_
    refine lv_goto (tgt := 100) hx hb dX11_turning_95 (by decide) ?_
    exact w_X11_turning_100 cx hE _ _ x0 x1 x2 hrec hkk x4 x5 x3 _ _ _ _ _ _ (lv_sub hl [0, 1, 2, 4, 5] rfl) hH hF
set_option maxHeartbeats 4000000 in
set_option maxRecDepth 100000 in
theorem w_X11_turning_63 {l : Launch} {D : va_G} {cy : Nat → ClassId} {z : Nat} {p : Program} {e : Env} {R : Room} {s : State} {m : MethodId} {args : Array Value} {below : List Frame} {meth : Method} {c : Code} {ws0 wsf : WS} {rr : Int32} (cx : Cx D cy z RX11 cX11_turning 7 (some .int) 1 40 "turning" p R s m meth c) (hE : AC ws0 wsf R.cells R.slots) (rec : Int32 → Int32 → Int32 → St (Int32)) (k : Int32 → St (Int32)) (x0 : Nat) (x1 : Int32) (x2 : Int32) (hrec : ∀ (x3 : Int32) (x4 : Int32) (x5 : Int32), At_ l D cy z p e R s m args below meth c ws0 wsf vI rr 7 8 [(0, .ref x0), (1, .int x1), (2, .int x2), (3, .int x3), (4, .int x4), (5, .int x5)] [] (rec x3 x4 x5)) (hkk : ∀ (x4 : Int32), At_ l D cy z p e R s m args below meth c ws0 wsf vI rr 7 107 [(2, .int x2), (4, .int x4)] [] (k x4)) (x3 : Int32) (x4 : Int32) (x5 : Int32) (s0 : Int32) : At_ l D cy z p e R s m args below meth c ws0 wsf vI rr 7 63 [(0, .ref x0), (1, .int x1), (2, .int x2), (3, .int x3), (4, .int x4), (5, .int x5)] [.int s0] (j_X11_turning_63 rec k x0 x1 x2 x3 x4 x5 s0) := by
  intro ws H locs cells slots ls hl hH hF
  obtain ⟨hx, hb, hr, hml, hown, hk, hz, hlocks, hnm, hfr, hlo⟩ := id cx
  unfold j_X11_turning_63 at hF
  refine lv_istore (lv' := [(6, .int s0), (0, .ref x0), (1, .int x1), (2, .int x2), (3, .int x3), (4, .int x4), (5, .int x5)]) hx hb dX11_turning_63 hl (by decide) (by first | rfl | simp [m_cat, m_ci, m_cl, m_cf, m_cd, m_cr]) (fun ls hl => ?_)
  refine lv_iload hx hb dX11_turning_65 (lv_at hl 0 rfl) ?_
  refine lv_if_eq (tgt := 89) hx hb dX11_turning_67 (by decide) (fun hc11 => ?_) (fun hc11 => ?_)
  · have hF := bq_t hc11 hF
    exact w_X11_turning_89 cx hE _ _ x0 x1 x2 hrec hkk x3 x4 x5 s0 _ _ _ _ _ _ (lv_sub hl [1, 2, 3, 4, 5, 6, 0] rfl) hH hF
  · have hF := bq_f hc11 hF
    refine lv_iload_n hx hb dX11_turning_70 rfl (lv_at hl 4 rfl) ?_
    refine lv_iload hx hb dX11_turning_71 (lv_at hl 0 rfl) ?_
    refine lv_ineg hx hb dX11_turning_73 ?_
    refine lv_icmp_ne (tgt := 89) hx hb dX11_turning_74 (by decide) (fun hc13 => ?_) (fun hc13 => ?_)
    · have hF := bq_f hc13 hF
      exact w_X11_turning_89 cx hE _ _ x0 x1 x2 hrec hkk x3 x4 x5 s0 _ _ _ _ _ _ (lv_sub hl [1, 2, 3, 4, 5, 6, 0] rfl) hH hF
    · have hF := bq_t hc13 hF
      refine lv_iload hx hb dX11_turning_77 (lv_at hl 5 rfl) ?_
      refine lv_iload_n hx hb dX11_turning_79 rfl (lv_at hl 3 rfl) ?_
      refine lv_icmp_ne (tgt := 86) hx hb dX11_turning_80 (by decide) (fun hc14 => ?_) (fun hc14 => ?_)
      · have hF := bq_f hc14 hF
        refine lv_iinc (v := (x4 + (1 : Int32))) (lv' := [(4, .int (x4 + (1 : Int32))), (6, .int s0), (0, .ref x0), (1, .int x1), (2, .int x2), (3, .int x3), (5, .int x5)]) hx hb dX11_turning_86 hl (k := 5) rfl (by first | rfl | (congr 1)) (by decide) (by first | rfl | simp [m_cat, m_ci, m_cl, m_cf, m_cd, m_cr]) (fun ls hl => ?_)
        exact w_X11_turning_89 cx hE _ _ x0 x1 x2 hrec hkk x3 (x4 + (1 : Int32)) x5 s0 _ _ _ _ _ _ (lv_sub hl [2, 3, 4, 5, 0, 6, 1] rfl) hH hF
      · have hF := bq_t hc14 hF
        refine lv_iload hx hb dX11_turning_83 (lv_at hl 6 rfl) ?_
        exact m_iret hx hb hr hlocks hH hE hF rfl dX11_turning_85
set_option maxHeartbeats 4000000 in
set_option maxRecDepth 100000 in
theorem wb_X11_turning_8 {l : Launch} {D : va_G} {cy : Nat → ClassId} {z : Nat} {p : Program} {e : Env} {R : Room} {s : State} {m : MethodId} {args : Array Value} {below : List Frame} {meth : Method} {c : Code} {ws0 wsf : WS} {rr : Int32} (cx : Cx D cy z RX11 cX11_turning 7 (some .int) 1 40 "turning" p R s m meth c) (hE : AC ws0 wsf R.cells R.slots) (x0 : Nat) (x1 : Int32) (x2 : Int32) (rec : Int32 → Int32 → Int32 → St (Int32)) (k : Int32 → St (Int32)) (hrec : ∀ (x3 : Int32) (x4 : Int32) (x5 : Int32), At_ l D cy z p e R s m args below meth c ws0 wsf vI rr 7 8 [(0, .ref x0), (1, .int x1), (2, .int x2), (3, .int x3), (4, .int x4), (5, .int x5)] [] (rec x3 x4 x5)) (hkk : ∀ (x4 : Int32), At_ l D cy z p e R s m args below meth c ws0 wsf vI rr 7 107 [(2, .int x2), (4, .int x4)] [] (k x4)) (x3 : Int32) (x4 : Int32) (x5 : Int32) : At_ l D cy z p e R s m args below meth c ws0 wsf vI rr 7 8 [(0, .ref x0), (1, .int x1), (2, .int x2), (3, .int x3), (4, .int x4), (5, .int x5)] [] (b_X11_turning_8 x0 x1 x2 rec k x3 x4 x5) := by
  intro ws H locs cells slots ls hl hH hF
  obtain ⟨hx, hb, hr, hml, hown, hk, hz, hlocks, hnm, hfr, hlo⟩ := id cx
  unfold b_X11_turning_8 at hF
  refine lv_iload hx hb dX11_turning_8 (lv_at hl 5 rfl) ?_
  refine lv_sipush (v := (4096)) hx hb dX11_turning_10 (by decide) ?_
  refine lv_icmp_ge (tgt := 107) hx hb dX11_turning_13 (by decide) (fun hc0 => ?_) (fun hc0 => ?_)
  · have hF := bq_t hc0 hF
    exact hkk _ _ _ _ _ _ _ (lv_sub hl [2, 4] rfl) hH hF
  · have hF := bq_f hc0 hF
    refine lv_aload_n hx hb dX11_turning_16 rfl (lv_at hl 0 rfl) ?_
    refine lv_iload_n hx hb dX11_turning_17 rfl (lv_at hl 1 rfl) ?_
    refine lv_iload hx hb dX11_turning_18 (lv_at hl 5 rfl) ?_
    refine m_cVI hx hb hml hown hk hH hE.le hz (F := fun q3 => F_X11_of q3.1 x1 x5) (C := RX11) (T := TX11) (N := 22) rfl (As := [.int x1, .int x5]) (rest := []) (fun o => t_X11_of l D cy z o x1 x5) hF wd_914 wd_916 wd_38 wd_917 wd_21 yn_X11_of ⟨Nat.le_trans (by decide) hfr, Nat.le_trans (by decide) hlo⟩ hl.1 (by first | exact Nat.le_of_ble_eq_true rfl | simp [m_cat, m_ci, m_cl, m_cf, m_cd, m_cr]) rfl dX11_turning_20 (fun c2 ws H locs cells slots hH hF => ?_)
    refine lv_aload_n hx hb dX11_turning_23 rfl (lv_at hl 0 rfl) ?_
    refine lv_iload_n hx hb dX11_turning_24 rfl (lv_at hl 1 rfl) ?_
    refine lv_iload hx hb dX11_turning_25 (lv_at hl 5 rfl) ?_
    refine lv_iconst (v := (1)) hx hb dX11_turning_27 (by decide) ?_
    refine lv_isub hx hb dX11_turning_28 ?_
    refine m_cVI hx hb hml hown hk hH hE.le hz (F := fun q5 => F_X11_of q5.1 x1 (x5 - (1 : Int32))) (C := RX11) (T := TX11) (N := 22) rfl (As := [.int x1, .int (x5 - (1 : Int32))]) (rest := [.int c2]) (fun o => t_X11_of l D cy z o x1 (x5 - (1 : Int32))) hF wd_914 wd_916 wd_38 wd_917 wd_21 yn_X11_of ⟨Nat.le_trans (by decide) hfr, Nat.le_trans (by decide) hlo⟩ hl.1 (by first | exact Nat.le_of_ble_eq_true rfl | simp [m_cat, m_ci, m_cl, m_cf, m_cd, m_cr]) rfl dX11_turning_29 (fun c4 ws H locs cells slots hH hF => ?_)
    refine lv_icmp_le (tgt := 39) hx hb dX11_turning_32 (by decide) (fun hc5 => ?_) (fun hc5 => ?_)
    · have hF := bq_t hc5 hF
      refine lv_aload_n hx hb dX11_turning_39 rfl (lv_at hl 0 rfl) ?_
      refine lv_iload_n hx hb dX11_turning_40 rfl (lv_at hl 1 rfl) ?_
      refine lv_iload hx hb dX11_turning_41 (lv_at hl 5 rfl) ?_
      refine m_cVI hx hb hml hown hk hH hE.le hz (F := fun q8 => F_X11_of q8.1 x1 x5) (C := RX11) (T := TX11) (N := 22) rfl (As := [.int x1, .int x5]) (rest := []) (fun o => t_X11_of l D cy z o x1 x5) hF wd_914 wd_916 wd_38 wd_917 wd_21 yn_X11_of ⟨Nat.le_trans (by decide) hfr, Nat.le_trans (by decide) hlo⟩ hl.1 (by first | exact Nat.le_of_ble_eq_true rfl | simp [m_cat, m_ci, m_cl, m_cf, m_cd, m_cr]) rfl dX11_turning_43 (fun c7 ws H locs cells slots hH hF => ?_)
      refine lv_aload_n hx hb dX11_turning_46 rfl (lv_at hl 0 rfl) ?_
      refine lv_iload_n hx hb dX11_turning_47 rfl (lv_at hl 1 rfl) ?_
      refine lv_iload hx hb dX11_turning_48 (lv_at hl 5 rfl) ?_
      refine lv_iconst (v := (1)) hx hb dX11_turning_50 (by decide) ?_
      refine lv_isub hx hb dX11_turning_51 ?_
      refine m_cVI hx hb hml hown hk hH hE.le hz (F := fun q10 => F_X11_of q10.1 x1 (x5 - (1 : Int32))) (C := RX11) (T := TX11) (N := 22) rfl (As := [.int x1, .int (x5 - (1 : Int32))]) (rest := [.int c7]) (fun o => t_X11_of l D cy z o x1 (x5 - (1 : Int32))) hF wd_914 wd_916 wd_38 wd_917 wd_21 yn_X11_of ⟨Nat.le_trans (by decide) hfr, Nat.le_trans (by decide) hlo⟩ hl.1 (by first | exact Nat.le_of_ble_eq_true rfl | simp [m_cat, m_ci, m_cl, m_cf, m_cd, m_cr]) rfl dX11_turning_52 (fun c9 ws H locs cells slots hH hF => ?_)
      refine lv_icmp_ge (tgt := 62) hx hb dX11_turning_55 (by decide) (fun hc10 => ?_) (fun hc10 => ?_)
      · have hF := bq_t hc10 hF
        refine lv_iconst (v := (0)) hx hb dX11_turning_62 (by decide) ?_
        exact w_X11_turning_63 cx hE _ _ x0 x1 x2 hrec hkk x3 x4 x5 (0 : Int32) _ _ _ _ _ _ (lv_sub hl [0, 1, 2, 3, 4, 5] rfl) hH hF
      · have hF := bq_f hc10 hF
        refine lv_iconst (v := (-1)) hx hb dX11_turning_58 (by decide) ?_
        refine lv_goto (tgt := 63) hx hb dX11_turning_59 (by decide) ?_
        exact w_X11_turning_63 cx hE _ _ x0 x1 x2 hrec hkk x3 x4 x5 (-1 : Int32) _ _ _ _ _ _ (lv_sub hl [0, 1, 2, 3, 4, 5] rfl) hH hF
    · have hF := bq_f hc5 hF
      refine lv_iconst (v := (1)) hx hb dX11_turning_35 (by decide) ?_
      refine lv_goto (tgt := 63) hx hb dX11_turning_36 (by decide) ?_
      exact w_X11_turning_63 cx hE _ _ x0 x1 x2 hrec hkk x3 x4 x5 (1 : Int32) _ _ _ _ _ _ (lv_sub hl [0, 1, 2, 3, 4, 5] rfl) hH hF
theorem w_X11_turning_8 {l : Launch} {D : va_G} {cy : Nat → ClassId} {z : Nat} {p : Program} {e : Env} {R : Room} {s : State} {m : MethodId} {args : Array Value} {below : List Frame} {meth : Method} {c : Code} {ws0 wsf : WS} {rr : Int32} (cx : Cx D cy z RX11 cX11_turning 7 (some .int) 1 40 "turning" p R s m meth c) (hE : AC ws0 wsf R.cells R.slots) (x0 : Nat) (x1 : Int32) (x2 : Int32) (k : Int32 → St (Int32)) (hkk : ∀ (x4 : Int32), At_ l D cy z p e R s m args below meth c ws0 wsf vI rr 7 107 [(2, .int x2), (4, .int x4)] [] (k x4)) : ∀ (n : Nat) (x3 : Int32) (x4 : Int32) (x5 : Int32), At_ l D cy z p e R s m args below meth c ws0 wsf vI rr 7 8 [(0, .ref x0), (1, .int x1), (2, .int x2), (3, .int x3), (4, .int x4), (5, .int x5)] [] (l_X11_turning_8 x0 x1 x2 k n x3 x4 x5) := by
  intro n
  induction n with
  | zero =>
    intro x3 x4 x5 ws H locs cells slots ls hl hH hF
    exact fl_t hF
  | succ n ih =>
    intro x3 x4 x5
    exact wb_X11_turning_8 cx hE x0 x1 x2 (l_X11_turning_8 x0 x1 x2 k n) k ih hkk x3 x4 x5
set_option maxHeartbeats 4000000 in
set_option maxRecDepth 100000 in
theorem t_X11_turning (l : Launch) (D : va_G) (cy : Nat → ClassId) (z : Nat) (o : Nat) (x1 : Int32) (x2 : Int32) : MT l D cy z yX11_turning cX11_turning 7 (some .int) 1 40 (F_X11_turning o x1 x2) vI [.ref o, .int x1, .int x2] := by
  refine m_enter [(0, .ref o), (1, .int x1), (2, .int x2)] (by decide) (by first | rfl | simp [lv_args, m_cat, m_ci, m_cl, m_cf, m_cd, m_cr]) (by first | exact Nat.le_of_ble_eq_true rfl | simp [lg_sl, m_cat, m_ci, m_cl, m_cf, m_cd, m_cr]) ?_
  intro p e R s m args below meth c ws0 wsf rr cx hE ws H locs cells slots ls hl hH hF
  obtain ⟨hx, hb, hr, hml, hown, hk, hz, hlocks, hnm, hfr, hlo⟩ := id cx
  unfold F_X11_turning at hF
  refine lv_iconst (v := (0)) hx hb dX11_turning_0 (by decide) ?_
  refine lv_istore_n (lv' := [(3, .int (0 : Int32)), (0, .ref o), (1, .int x1), (2, .int x2)]) hx hb dX11_turning_1 rfl hl (by decide) (by first | rfl | simp [m_cat, m_ci, m_cl, m_cf, m_cd, m_cr]) (fun ls hl => ?_)
  refine lv_iconst (v := (0)) hx hb dX11_turning_2 (by decide) ?_
  refine lv_istore (lv' := [(4, .int (0 : Int32)), (3, .int (0 : Int32)), (0, .ref o), (1, .int x1), (2, .int x2)]) hx hb dX11_turning_3 hl (by decide) (by first | rfl | simp [m_cat, m_ci, m_cl, m_cf, m_cd, m_cr]) (fun ls hl => ?_)
  refine lv_iconst (v := (1)) hx hb dX11_turning_5 (by decide) ?_
  refine lv_istore (lv' := [(5, .int (1 : Int32)), (4, .int (0 : Int32)), (3, .int (0 : Int32)), (0, .ref o), (1, .int x1), (2, .int x2)]) hx hb dX11_turning_6 hl (by decide) (by first | rfl | simp [m_cat, m_ci, m_cl, m_cf, m_cd, m_cr]) (fun ls hl => ?_)
  refine w_X11_turning_8 cx hE o x1 x2 _ (fun e16 ws H locs cells slots ls hl hH hF => ?_) _ _ _ _ _ _ _ _ _ _ (lv_sub hl [3, 4, 5, 2, 1, 0] rfl) hH hF
  refine lv_iload_n hx hb dX11_turning_107 rfl (lv_at hl 0 rfl) ?_
  refine lv_if_ge (tgt := 118) hx hb dX11_turning_108 (by decide) (fun hc16 => ?_) (fun hc16 => ?_)
  · have hF := bq_t hc16 hF
    refine lv_iconst (v := (-1)) hx hb dX11_turning_118 (by decide) ?_
    exact m_iret hx hb hr hlocks hH hE hF rfl dX11_turning_119
  · have hF := bq_f hc16 hF
    refine lv_iload hx hb dX11_turning_111 (lv_at hl 1 rfl) ?_
    refine lv_iconst (v := (1)) hx hb dX11_turning_113 (by decide) ?_
    refine lv_isub hx hb dX11_turning_114 ?_
    refine lv_goto (tgt := 119) hx hb dX11_turning_115 (by decide) ?_
    exact m_iret hx hb hr hlocks hH hE hF rfl dX11_turning_119

def j_X11_end_60 (rec : Int32 → Int32 → St (Int32)) (k : Int32 → St (Int32)) (x0 : Nat) (x1 : Int32) (x2 : Int32) (x4 : Int32) (s0 : Int32) : St (Int32) :=
  rec s0 (x4 + (1 : Int32))
def j_X11_end_59 (rec : Int32 → Int32 → St (Int32)) (k : Int32 → St (Int32)) (x0 : Nat) (x1 : Int32) (x2 : Int32) (x3 : Int32) (x4 : Int32) : St (Int32) :=
  j_X11_end_60 rec k x0 x1 x2 x4 x3
def j_X11_end_35 (rec : Int32 → Int32 → St (Int32)) (k : Int32 → St (Int32)) (x0 : Nat) (x1 : Int32) (x2 : Int32) (x3 : Int32) (x4 : Int32) (s0 : Int32) (s1 : Int32) : St (Int32) :=
  br (s0 = s1) (bd (dr [10] (some x0)) fun q9 => bd (F_X11_of q9.1 x1 x4) fun c8 => br (c8 = x3) (j_X11_end_59 rec k x0 x1 x2 x3 x4) (bd (dr [10] (some x0)) fun q12 => bd (F_X11_of q12.1 x1 x4) fun c11 => j_X11_end_60 rec k x0 x1 x2 x4 c11)) (j_X11_end_59 rec k x0 x1 x2 x3 x4)
def b_X11_end_10 (x0 : Nat) (x1 : Int32) (x2 : Int32) (rec : Int32 → Int32 → St (Int32)) (k : Int32 → St (Int32)) (x3 : Int32) (x4 : Int32) : St (Int32) :=
  br ((4096 : Int32) ≤ x4) (k x3) (bd (dr [10] (some x0)) fun q5 => bd (F_X11_of q5.1 x1 x4) fun c4 => br (c4 ≤ x3) (j_X11_end_35 rec k x0 x1 x2 x3 x4 x2 (0 : Int32)) (j_X11_end_35 rec k x0 x1 x2 x3 x4 x2 (1 : Int32)))
def l_X11_end_10 (x0 : Nat) (x1 : Int32) (x2 : Int32) (k : Int32 → St (Int32)) : Nat → Int32 → Int32 → St (Int32)
  | 0 => fun _ _ => fl
  | n + 1 => fun x3 x4 => b_X11_end_10 x0 x1 x2 (l_X11_end_10 x0 x1 x2 k n) k x3 x4
def F_X11_end (o : Nat) (x1 : Int32) (x2 : Int32) : St (Int32) :=
  bd (dr [10] (some o)) fun q2 => bd (F_X11_of q2.1 x1 (0 : Int32)) fun c1 => l_X11_end_10 o x1 x2 (fun (e13 : Int32) => rt e13) FU c1 (1 : Int32)
set_option maxHeartbeats 4000000 in
set_option maxRecDepth 100000 in
theorem w_X11_end_60 {l : Launch} {D : va_G} {cy : Nat → ClassId} {z : Nat} {p : Program} {e : Env} {R : Room} {s : State} {m : MethodId} {args : Array Value} {below : List Frame} {meth : Method} {c : Code} {ws0 wsf : WS} {rr : Int32} (cx : Cx D cy z RX11 cX11_end 5 (some .int) 1 40 "end" p R s m meth c) (hE : AC ws0 wsf R.cells R.slots) (rec : Int32 → Int32 → St (Int32)) (k : Int32 → St (Int32)) (x0 : Nat) (x1 : Int32) (x2 : Int32) (hrec : ∀ (x3 : Int32) (x4 : Int32), At_ l D cy z p e R s m args below meth c ws0 wsf vI rr 5 10 [(0, .ref x0), (1, .int x1), (2, .int x2), (3, .int x3), (4, .int x4)] [] (rec x3 x4)) (hkk : ∀ (x3 : Int32), At_ l D cy z p e R s m args below meth c ws0 wsf vI rr 5 67 [(3, .int x3)] [] (k x3)) (x4 : Int32) (s0 : Int32) : At_ l D cy z p e R s m args below meth c ws0 wsf vI rr 5 60 [(0, .ref x0), (1, .int x1), (2, .int x2), (4, .int x4)] [.int s0] (j_X11_end_60 rec k x0 x1 x2 x4 s0) := by
  intro ws H locs cells slots ls hl hH hF
  obtain ⟨hx, hb, hr, hml, hown, hk, hz, hlocks, hnm, hfr, hlo⟩ := id cx
  unfold j_X11_end_60 at hF
  refine lv_istore_n (lv' := [(3, .int s0), (0, .ref x0), (1, .int x1), (2, .int x2), (4, .int x4)]) hx hb dX11_end_60 rfl hl (by decide) (by first | rfl | simp [m_cat, m_ci, m_cl, m_cf, m_cd, m_cr]) (fun ls hl => ?_)
  refine lv_iinc (v := (x4 + (1 : Int32))) (lv' := [(4, .int (x4 + (1 : Int32))), (3, .int s0), (0, .ref x0), (1, .int x1), (2, .int x2)]) hx hb dX11_end_61 hl (k := 4) rfl (by first | rfl | (congr 1)) (by decide) (by first | rfl | simp [m_cat, m_ci, m_cl, m_cf, m_cd, m_cr]) (fun ls hl => ?_)
  refine lv_goto (tgt := 10) hx hb dX11_end_64 (by decide) ?_
  exact hrec _ _ _ _ _ _ _ _ (lv_sub hl [2, 3, 4, 1, 0] rfl) hH hF
set_option maxHeartbeats 4000000 in
set_option maxRecDepth 100000 in
theorem w_X11_end_59 {l : Launch} {D : va_G} {cy : Nat → ClassId} {z : Nat} {p : Program} {e : Env} {R : Room} {s : State} {m : MethodId} {args : Array Value} {below : List Frame} {meth : Method} {c : Code} {ws0 wsf : WS} {rr : Int32} (cx : Cx D cy z RX11 cX11_end 5 (some .int) 1 40 "end" p R s m meth c) (hE : AC ws0 wsf R.cells R.slots) (rec : Int32 → Int32 → St (Int32)) (k : Int32 → St (Int32)) (x0 : Nat) (x1 : Int32) (x2 : Int32) (hrec : ∀ (x3 : Int32) (x4 : Int32), At_ l D cy z p e R s m args below meth c ws0 wsf vI rr 5 10 [(0, .ref x0), (1, .int x1), (2, .int x2), (3, .int x3), (4, .int x4)] [] (rec x3 x4)) (hkk : ∀ (x3 : Int32), At_ l D cy z p e R s m args below meth c ws0 wsf vI rr 5 67 [(3, .int x3)] [] (k x3)) (x3 : Int32) (x4 : Int32) : At_ l D cy z p e R s m args below meth c ws0 wsf vI rr 5 59 [(0, .ref x0), (1, .int x1), (2, .int x2), (3, .int x3), (4, .int x4)] [] (j_X11_end_59 rec k x0 x1 x2 x3 x4) := by
  intro ws H locs cells slots ls hl hH hF
  obtain ⟨hx, hb, hr, hml, hown, hk, hz, hlocks, hnm, hfr, hlo⟩ := id cx
  unfold j_X11_end_59 at hF
  refine lv_iload_n hx hb dX11_end_59 rfl (lv_at hl 3 rfl) ?_
  exact w_X11_end_60 cx hE _ _ x0 x1 x2 hrec hkk x4 x3 _ _ _ _ _ _ (lv_sub hl [0, 1, 2, 4] rfl) hH hF
set_option maxHeartbeats 4000000 in
set_option maxRecDepth 100000 in
theorem w_X11_end_35 {l : Launch} {D : va_G} {cy : Nat → ClassId} {z : Nat} {p : Program} {e : Env} {R : Room} {s : State} {m : MethodId} {args : Array Value} {below : List Frame} {meth : Method} {c : Code} {ws0 wsf : WS} {rr : Int32} (cx : Cx D cy z RX11 cX11_end 5 (some .int) 1 40 "end" p R s m meth c) (hE : AC ws0 wsf R.cells R.slots) (rec : Int32 → Int32 → St (Int32)) (k : Int32 → St (Int32)) (x0 : Nat) (x1 : Int32) (x2 : Int32) (hrec : ∀ (x3 : Int32) (x4 : Int32), At_ l D cy z p e R s m args below meth c ws0 wsf vI rr 5 10 [(0, .ref x0), (1, .int x1), (2, .int x2), (3, .int x3), (4, .int x4)] [] (rec x3 x4)) (hkk : ∀ (x3 : Int32), At_ l D cy z p e R s m args below meth c ws0 wsf vI rr 5 67 [(3, .int x3)] [] (k x3)) (x3 : Int32) (x4 : Int32) (s0 : Int32) (s1 : Int32) : At_ l D cy z p e R s m args below meth c ws0 wsf vI rr 5 35 [(0, .ref x0), (1, .int x1), (2, .int x2), (3, .int x3), (4, .int x4)] [.int s1, .int s0] (j_X11_end_35 rec k x0 x1 x2 x3 x4 s0 s1) := by
  intro ws H locs cells slots ls hl hH hF
  obtain ⟨hx, hb, hr, hml, hown, hk, hz, hlocks, hnm, hfr, hlo⟩ := id cx
  unfold j_X11_end_35 at hF
  refine lv_icmp_ne (tgt := 59) hx hb dX11_end_35 (by decide) (fun hc6 => ?_) (fun hc6 => ?_)
  · have hF := bq_f hc6 hF
    exact w_X11_end_59 cx hE _ _ x0 x1 x2 hrec hkk x3 x4 _ _ _ _ _ _ (lv_sub hl [0, 1, 2, 3, 4] rfl) hH hF
  · have hF := bq_t hc6 hF
    refine lv_aload_n hx hb dX11_end_38 rfl (lv_at hl 0 rfl) ?_
    refine lv_iload_n hx hb dX11_end_39 rfl (lv_at hl 1 rfl) ?_
    refine lv_iload hx hb dX11_end_40 (lv_at hl 4 rfl) ?_
    refine m_cVI hx hb hml hown hk hH hE.le hz (F := fun q9 => F_X11_of q9.1 x1 x4) (C := RX11) (T := TX11) (N := 22) rfl (As := [.int x1, .int x4]) (rest := []) (fun o => t_X11_of l D cy z o x1 x4) hF wd_914 wd_916 wd_38 wd_917 wd_21 yn_X11_of ⟨Nat.le_trans (by decide) hfr, Nat.le_trans (by decide) hlo⟩ hl.1 (by first | exact Nat.le_of_ble_eq_true rfl | simp [m_cat, m_ci, m_cl, m_cf, m_cd, m_cr]) rfl dX11_end_42 (fun c8 ws H locs cells slots hH hF => ?_)
    refine lv_iload_n hx hb dX11_end_45 rfl (lv_at hl 3 rfl) ?_
    refine lv_icmp_eq (tgt := 59) hx hb dX11_end_46 (by decide) (fun hc9 => ?_) (fun hc9 => ?_)
    · have hF := bq_t hc9 hF
      exact w_X11_end_59 cx hE _ _ x0 x1 x2 hrec hkk x3 x4 _ _ _ _ _ _ (lv_sub hl [0, 1, 2, 3, 4] rfl) hH hF
    · have hF := bq_f hc9 hF
      refine lv_aload_n hx hb dX11_end_49 rfl (lv_at hl 0 rfl) ?_
      refine lv_iload_n hx hb dX11_end_50 rfl (lv_at hl 1 rfl) ?_
      refine lv_iload hx hb dX11_end_51 (lv_at hl 4 rfl) ?_
      refine m_cVI hx hb hml hown hk hH hE.le hz (F := fun q12 => F_X11_of q12.1 x1 x4) (C := RX11) (T := TX11) (N := 22) rfl (As := [.int x1, .int x4]) (rest := []) (fun o => t_X11_of l D cy z o x1 x4) hF wd_914 wd_916 wd_38 wd_917 wd_21 yn_X11_of ⟨Nat.le_trans (by decide) hfr, Nat.le_trans (by decide) hlo⟩ hl.1 (by first | exact Nat.le_of_ble_eq_true rfl | simp [m_cat, m_ci, m_cl, m_cf, m_cd, m_cr]) rfl dX11_end_53 (fun c11 ws H locs cells slots hH hF => ?_)
      refine lv_goto (tgt := 60) hx hb dX11_end_56 (by decide) ?_
      exact w_X11_end_60 cx hE _ _ x0 x1 x2 hrec hkk x4 c11 _ _ _ _ _ _ (lv_sub hl [0, 1, 2, 4] rfl) hH hF
set_option maxHeartbeats 4000000 in
set_option maxRecDepth 100000 in
theorem wb_X11_end_10 {l : Launch} {D : va_G} {cy : Nat → ClassId} {z : Nat} {p : Program} {e : Env} {R : Room} {s : State} {m : MethodId} {args : Array Value} {below : List Frame} {meth : Method} {c : Code} {ws0 wsf : WS} {rr : Int32} (cx : Cx D cy z RX11 cX11_end 5 (some .int) 1 40 "end" p R s m meth c) (hE : AC ws0 wsf R.cells R.slots) (x0 : Nat) (x1 : Int32) (x2 : Int32) (rec : Int32 → Int32 → St (Int32)) (k : Int32 → St (Int32)) (hrec : ∀ (x3 : Int32) (x4 : Int32), At_ l D cy z p e R s m args below meth c ws0 wsf vI rr 5 10 [(0, .ref x0), (1, .int x1), (2, .int x2), (3, .int x3), (4, .int x4)] [] (rec x3 x4)) (hkk : ∀ (x3 : Int32), At_ l D cy z p e R s m args below meth c ws0 wsf vI rr 5 67 [(3, .int x3)] [] (k x3)) (x3 : Int32) (x4 : Int32) : At_ l D cy z p e R s m args below meth c ws0 wsf vI rr 5 10 [(0, .ref x0), (1, .int x1), (2, .int x2), (3, .int x3), (4, .int x4)] [] (b_X11_end_10 x0 x1 x2 rec k x3 x4) := by
  intro ws H locs cells slots ls hl hH hF
  obtain ⟨hx, hb, hr, hml, hown, hk, hz, hlocks, hnm, hfr, hlo⟩ := id cx
  unfold b_X11_end_10 at hF
  refine lv_iload hx hb dX11_end_10 (lv_at hl 4 rfl) ?_
  refine lv_sipush (v := (4096)) hx hb dX11_end_12 (by decide) ?_
  refine lv_icmp_ge (tgt := 67) hx hb dX11_end_15 (by decide) (fun hc2 => ?_) (fun hc2 => ?_)
  · have hF := bq_t hc2 hF
    exact hkk _ _ _ _ _ _ _ (lv_sub hl [3] rfl) hH hF
  · have hF := bq_f hc2 hF
    refine lv_iload_n hx hb dX11_end_18 rfl (lv_at hl 2 rfl) ?_
    refine lv_aload_n hx hb dX11_end_19 rfl (lv_at hl 0 rfl) ?_
    refine lv_iload_n hx hb dX11_end_20 rfl (lv_at hl 1 rfl) ?_
    refine lv_iload hx hb dX11_end_21 (lv_at hl 4 rfl) ?_
    refine m_cVI hx hb hml hown hk hH hE.le hz (F := fun q5 => F_X11_of q5.1 x1 x4) (C := RX11) (T := TX11) (N := 22) rfl (As := [.int x1, .int x4]) (rest := [.int x2]) (fun o => t_X11_of l D cy z o x1 x4) hF wd_914 wd_916 wd_38 wd_917 wd_21 yn_X11_of ⟨Nat.le_trans (by decide) hfr, Nat.le_trans (by decide) hlo⟩ hl.1 (by first | exact Nat.le_of_ble_eq_true rfl | simp [m_cat, m_ci, m_cl, m_cf, m_cd, m_cr]) rfl dX11_end_23 (fun c4 ws H locs cells slots hH hF => ?_)
    refine lv_iload_n hx hb dX11_end_26 rfl (lv_at hl 3 rfl) ?_
    refine lv_icmp_le (tgt := 34) hx hb dX11_end_27 (by decide) (fun hc5 => ?_) (fun hc5 => ?_)
    · have hF := bq_t hc5 hF
      refine lv_iconst (v := (0)) hx hb dX11_end_34 (by decide) ?_
      exact w_X11_end_35 cx hE _ _ x0 x1 x2 hrec hkk x3 x4 x2 (0 : Int32) _ _ _ _ _ _ (lv_sub hl [0, 1, 2, 3, 4] rfl) hH hF
    · have hF := bq_f hc5 hF
      refine lv_iconst (v := (1)) hx hb dX11_end_30 (by decide) ?_
      refine lv_goto (tgt := 35) hx hb dX11_end_31 (by decide) ?_
      exact w_X11_end_35 cx hE _ _ x0 x1 x2 hrec hkk x3 x4 x2 (1 : Int32) _ _ _ _ _ _ (lv_sub hl [0, 1, 2, 3, 4] rfl) hH hF
theorem w_X11_end_10 {l : Launch} {D : va_G} {cy : Nat → ClassId} {z : Nat} {p : Program} {e : Env} {R : Room} {s : State} {m : MethodId} {args : Array Value} {below : List Frame} {meth : Method} {c : Code} {ws0 wsf : WS} {rr : Int32} (cx : Cx D cy z RX11 cX11_end 5 (some .int) 1 40 "end" p R s m meth c) (hE : AC ws0 wsf R.cells R.slots) (x0 : Nat) (x1 : Int32) (x2 : Int32) (k : Int32 → St (Int32)) (hkk : ∀ (x3 : Int32), At_ l D cy z p e R s m args below meth c ws0 wsf vI rr 5 67 [(3, .int x3)] [] (k x3)) : ∀ (n : Nat) (x3 : Int32) (x4 : Int32), At_ l D cy z p e R s m args below meth c ws0 wsf vI rr 5 10 [(0, .ref x0), (1, .int x1), (2, .int x2), (3, .int x3), (4, .int x4)] [] (l_X11_end_10 x0 x1 x2 k n x3 x4) := by
  intro n
  induction n with
  | zero =>
    intro x3 x4 ws H locs cells slots ls hl hH hF
    exact fl_t hF
  | succ n ih =>
    intro x3 x4
    exact wb_X11_end_10 cx hE x0 x1 x2 (l_X11_end_10 x0 x1 x2 k n) k ih hkk x3 x4
set_option maxHeartbeats 4000000 in
set_option maxRecDepth 100000 in
theorem t_X11_end (l : Launch) (D : va_G) (cy : Nat → ClassId) (z : Nat) (o : Nat) (x1 : Int32) (x2 : Int32) : MT l D cy z yX11_end cX11_end 5 (some .int) 1 40 (F_X11_end o x1 x2) vI [.ref o, .int x1, .int x2] := by
  refine m_enter [(0, .ref o), (1, .int x1), (2, .int x2)] (by decide) (by first | rfl | simp [lv_args, m_cat, m_ci, m_cl, m_cf, m_cd, m_cr]) (by first | exact Nat.le_of_ble_eq_true rfl | simp [lg_sl, m_cat, m_ci, m_cl, m_cf, m_cd, m_cr]) ?_
  intro p e R s m args below meth c ws0 wsf rr cx hE ws H locs cells slots ls hl hH hF
  obtain ⟨hx, hb, hr, hml, hown, hk, hz, hlocks, hnm, hfr, hlo⟩ := id cx
  unfold F_X11_end at hF
  refine lv_aload_n hx hb dX11_end_0 rfl (lv_at hl 0 rfl) ?_
  refine lv_iload_n hx hb dX11_end_1 rfl (lv_at hl 1 rfl) ?_
  refine lv_iconst (v := (0)) hx hb dX11_end_2 (by decide) ?_
  refine m_cVI hx hb hml hown hk hH hE.le hz (F := fun q2 => F_X11_of q2.1 x1 (0 : Int32)) (C := RX11) (T := TX11) (N := 22) rfl (As := [.int x1, .int (0 : Int32)]) (rest := []) (fun o => t_X11_of l D cy z o x1 (0 : Int32)) hF wd_914 wd_916 wd_38 wd_917 wd_21 yn_X11_of ⟨Nat.le_trans (by decide) hfr, Nat.le_trans (by decide) hlo⟩ hl.1 (by first | exact Nat.le_of_ble_eq_true rfl | simp [m_cat, m_ci, m_cl, m_cf, m_cd, m_cr]) rfl dX11_end_3 (fun c1 ws H locs cells slots hH hF => ?_)
  refine lv_istore_n (lv' := [(3, .int c1), (0, .ref o), (1, .int x1), (2, .int x2)]) hx hb dX11_end_6 rfl hl (by decide) (by first | rfl | simp [m_cat, m_ci, m_cl, m_cf, m_cd, m_cr]) (fun ls hl => ?_)
  refine lv_iconst (v := (1)) hx hb dX11_end_7 (by decide) ?_
  refine lv_istore (lv' := [(4, .int (1 : Int32)), (3, .int c1), (0, .ref o), (1, .int x1), (2, .int x2)]) hx hb dX11_end_8 hl (by decide) (by first | rfl | simp [m_cat, m_ci, m_cl, m_cf, m_cd, m_cr]) (fun ls hl => ?_)
  refine w_X11_end_10 cx hE o x1 x2 _ (fun e13 ws H locs cells slots ls hl hH hF => ?_) _ _ _ _ _ _ _ _ _ (lv_sub hl [2, 3, 4, 1, 0] rfl) hH hF
  refine lv_iload_n hx hb dX11_end_67 rfl (lv_at hl 0 rfl) ?_
  exact m_iret hx hb hr hlocks hH hE hF rfl dX11_end_68

def F_X11_about (o : Nat) (x1 : Int32) (x2 : Int32) : St (Int32) :=
  bd (dr [10] (some o)) fun q2 => bd (F_X11_isCurve q2.1 x1) fun c1 => br (c1 = 0) (rt (-2000000 : Int32)) (bd (rt x2) fun w4 => br (w4 = (0)) (bd (gR [10] 5 (some o)) fun v5 => bd (aI 0 v5 x1) fun v6 => rt v6) (br (w4 = (1)) (bd (gR [10] 6 (some o)) fun v7 => bd (aI 0 v7 x1) fun v8 => rt v8) (br (w4 = (2)) (bd (dr [10] (some o)) fun q10 => bd (F_X11_way q10.1 x1) fun c9 => rt c9) (br (w4 = (3)) (bd (dr [10] (some o)) fun q12 => bd (F_X11_turning q12.1 x1 (-1 : Int32)) fun c11 => rt (c11 + (1 : Int32))) (br (w4 = (4)) (bd (dr [10] (some o)) fun q14 => bd (F_X11_end q14.1 x1 (0 : Int32)) fun c13 => rt c13) (br (w4 = (5)) (bd (dr [10] (some o)) fun q16 => bd (F_X11_end q16.1 x1 (1 : Int32)) fun c15 => rt c15) (rt (-2000000 : Int32))))))))
set_option maxHeartbeats 4000000 in
set_option maxRecDepth 100000 in
theorem t_X11_about (l : Launch) (D : va_G) (cy : Nat → ClassId) (z : Nat) (o : Nat) (x1 : Int32) (x2 : Int32) : MT l D cy z yX11_about cX11_about 3 (some .int) 2 66 (F_X11_about o x1 x2) vI [.ref o, .int x1, .int x2] := by
  refine m_enter [(0, .ref o), (1, .int x1), (2, .int x2)] (by decide) (by first | rfl | simp [lv_args, m_cat, m_ci, m_cl, m_cf, m_cd, m_cr]) (by first | exact Nat.le_of_ble_eq_true rfl | simp [lg_sl, m_cat, m_ci, m_cl, m_cf, m_cd, m_cr]) ?_
  intro p e R s m args below meth c ws0 wsf rr cx hE ws H locs cells slots ls hl hH hF
  obtain ⟨hx, hb, hr, hml, hown, hk, hz, hlocks, hnm, hfr, hlo⟩ := id cx
  unfold F_X11_about at hF
  refine lv_aload_n hx hb dX11_about_0 rfl (lv_at hl 0 rfl) ?_
  refine lv_iload_n hx hb dX11_about_1 rfl (lv_at hl 1 rfl) ?_
  refine m_cVI hx hb hml hown hk hH hE.le hz (F := fun q2 => F_X11_isCurve q2.1 x1) (C := RX11) (T := TX11) (N := 22) rfl (As := [.int x1]) (rest := []) (fun o => t_X11_isCurve l D cy z o x1) hF wd_903 wd_905 wd_38 wd_906 wd_19 yn_X11_isCurve ⟨Nat.le_trans (by decide) hfr, Nat.le_trans (by decide) hlo⟩ hl.1 (by first | exact Nat.le_of_ble_eq_true rfl | simp [m_cat, m_ci, m_cl, m_cf, m_cd, m_cr]) rfl dX11_about_2 (fun c1 ws H locs cells slots hH hF => ?_)
  refine lv_if_ne (tgt := 11) hx hb dX11_about_5 (by decide) (fun hc2 => ?_) (fun hc2 => ?_)
  · have hF := bq_f hc2 hF
    refine lv_iload_n hx hb dX11_about_11 rfl (lv_at hl 2 rfl) ?_
    refine lv_topi (fun w4 hw4 => ?_)
    have hF := rt_t hw4 hF
    by_cases hkw4_0 : w4 = (0)
    · have hF := bq_t hkw4_0 hF
      refine lv_tableIn (off := 40) (tgt := 52) hx hb dX11_about_12 (by rw [hkw4_0]; decide) (by rw [hkw4_0]; decide) (by rw [hkw4_0]; decide) (by decide) ?_
      refine lv_aload_n hx hb dX11_about_52 rfl (lv_at hl 0 rfl) ?_
      refine m_gR hx hb hown hk hH hF fk_RX11_sort lk_RX11_22 dX11_about_53 (fun v5 hF => ?_)
      refine lv_iload_n hx hb dX11_about_56 rfl (lv_at hl 1 rfl) ?_
      refine m_aI0 hx hb hk hH hF dX11_about_57 (fun v6 hF => ?_)
      exact m_iret hx hb hr hlocks hH hE hF rfl dX11_about_58
    · have hF := bq_f hkw4_0 hF
      by_cases hkw4_1 : w4 = (1)
      · have hF := bq_t hkw4_1 hF
        refine lv_tableIn (off := 47) (tgt := 59) hx hb dX11_about_12 (by rw [hkw4_1]; decide) (by rw [hkw4_1]; decide) (by rw [hkw4_1]; decide) (by decide) ?_
        refine lv_aload_n hx hb dX11_about_59 rfl (lv_at hl 0 rfl) ?_
        refine m_gR hx hb hown hk hH hF fk_RX11_work lk_RX11_25 dX11_about_60 (fun v7 hF => ?_)
        refine lv_iload_n hx hb dX11_about_63 rfl (lv_at hl 1 rfl) ?_
        refine m_aI0 hx hb hk hH hF dX11_about_64 (fun v8 hF => ?_)
        exact m_iret hx hb hr hlocks hH hE hF rfl dX11_about_65
      · have hF := bq_f hkw4_1 hF
        by_cases hkw4_2 : w4 = (2)
        · have hF := bq_t hkw4_2 hF
          refine lv_tableIn (off := 54) (tgt := 66) hx hb dX11_about_12 (by rw [hkw4_2]; decide) (by rw [hkw4_2]; decide) (by rw [hkw4_2]; decide) (by decide) ?_
          refine lv_aload_n hx hb dX11_about_66 rfl (lv_at hl 0 rfl) ?_
          refine lv_iload_n hx hb dX11_about_67 rfl (lv_at hl 1 rfl) ?_
          refine m_cVI hx hb hml hown hk hH hE.le hz (F := fun q10 => F_X11_way q10.1 x1) (C := RX11) (T := TX11) (N := 22) rfl (As := [.int x1]) (rest := []) (fun o => t_X11_way l D cy z o x1) hF wd_943 wd_945 wd_38 wd_946 wd_22 yn_X11_way ⟨Nat.le_trans (by decide) hfr, Nat.le_trans (by decide) hlo⟩ hl.1 (by first | exact Nat.le_of_ble_eq_true rfl | simp [m_cat, m_ci, m_cl, m_cf, m_cd, m_cr]) rfl dX11_about_68 (fun c9 ws H locs cells slots hH hF => ?_)
          exact m_iret hx hb hr hlocks hH hE hF rfl dX11_about_71
        · have hF := bq_f hkw4_2 hF
          by_cases hkw4_3 : w4 = (3)
          · have hF := bq_t hkw4_3 hF
            refine lv_tableIn (off := 60) (tgt := 72) hx hb dX11_about_12 (by rw [hkw4_3]; decide) (by rw [hkw4_3]; decide) (by rw [hkw4_3]; decide) (by decide) ?_
            refine lv_aload_n hx hb dX11_about_72 rfl (lv_at hl 0 rfl) ?_
            refine lv_iload_n hx hb dX11_about_73 rfl (lv_at hl 1 rfl) ?_
            refine lv_iconst (v := (-1)) hx hb dX11_about_74 (by decide) ?_
            refine m_cVI hx hb hml hown hk hH hE.le hz (F := fun q12 => F_X11_turning q12.1 x1 (-1 : Int32)) (C := RX11) (T := TX11) (N := 22) rfl (As := [.int x1, .int (-1 : Int32)]) (rest := []) (fun o => t_X11_turning l D cy z o x1 (-1 : Int32)) hF wd_947 wd_949 wd_38 wd_950 wd_23 yn_X11_turning ⟨Nat.le_trans (by decide) hfr, Nat.le_trans (by decide) hlo⟩ hl.1 (by first | exact Nat.le_of_ble_eq_true rfl | simp [m_cat, m_ci, m_cl, m_cf, m_cd, m_cr]) rfl dX11_about_75 (fun c11 ws H locs cells slots hH hF => ?_)
            refine lv_iconst (v := (1)) hx hb dX11_about_78 (by decide) ?_
            refine lv_iadd hx hb dX11_about_79 ?_
            exact m_iret hx hb hr hlocks hH hE hF rfl dX11_about_80
          · have hF := bq_f hkw4_3 hF
            by_cases hkw4_4 : w4 = (4)
            · have hF := bq_t hkw4_4 hF
              refine lv_tableIn (off := 69) (tgt := 81) hx hb dX11_about_12 (by rw [hkw4_4]; decide) (by rw [hkw4_4]; decide) (by rw [hkw4_4]; decide) (by decide) ?_
              refine lv_aload_n hx hb dX11_about_81 rfl (lv_at hl 0 rfl) ?_
              refine lv_iload_n hx hb dX11_about_82 rfl (lv_at hl 1 rfl) ?_
              refine lv_iconst (v := (0)) hx hb dX11_about_83 (by decide) ?_
              refine m_cVI hx hb hml hown hk hH hE.le hz (F := fun q14 => F_X11_end q14.1 x1 (0 : Int32)) (C := RX11) (T := TX11) (N := 22) rfl (As := [.int x1, .int (0 : Int32)]) (rest := []) (fun o => t_X11_end l D cy z o x1 (0 : Int32)) hF wd_951 wd_953 wd_38 wd_954 wd_24 yn_X11_end ⟨Nat.le_trans (by decide) hfr, Nat.le_trans (by decide) hlo⟩ hl.1 (by first | exact Nat.le_of_ble_eq_true rfl | simp [m_cat, m_ci, m_cl, m_cf, m_cd, m_cr]) rfl dX11_about_84 (fun c13 ws H locs cells slots hH hF => ?_)
              exact m_iret hx hb hr hlocks hH hE hF rfl dX11_about_87
            · have hF := bq_f hkw4_4 hF
              by_cases hkw4_5 : w4 = (5)
              · have hF := bq_t hkw4_5 hF
                refine lv_tableIn (off := 76) (tgt := 88) hx hb dX11_about_12 (by rw [hkw4_5]; decide) (by rw [hkw4_5]; decide) (by rw [hkw4_5]; decide) (by decide) ?_
                refine lv_aload_n hx hb dX11_about_88 rfl (lv_at hl 0 rfl) ?_
                refine lv_iload_n hx hb dX11_about_89 rfl (lv_at hl 1 rfl) ?_
                refine lv_iconst (v := (1)) hx hb dX11_about_90 (by decide) ?_
                refine m_cVI hx hb hml hown hk hH hE.le hz (F := fun q16 => F_X11_end q16.1 x1 (1 : Int32)) (C := RX11) (T := TX11) (N := 22) rfl (As := [.int x1, .int (1 : Int32)]) (rest := []) (fun o => t_X11_end l D cy z o x1 (1 : Int32)) hF wd_951 wd_953 wd_38 wd_954 wd_24 yn_X11_end ⟨Nat.le_trans (by decide) hfr, Nat.le_trans (by decide) hlo⟩ hl.1 (by first | exact Nat.le_of_ble_eq_true rfl | simp [m_cat, m_ci, m_cl, m_cf, m_cd, m_cr]) rfl dX11_about_91 (fun c15 ws H locs cells slots hH hF => ?_)
                exact m_iret hx hb hr hlocks hH hE hF rfl dX11_about_94
              · have hF := bq_f hkw4_5 hF
                refine lv_tableOut (tgt := 95) hx hb dX11_about_12 (by have g0 := lv_neT hkw4_0 (a := 0) (by decide); have g1 := lv_neT hkw4_1 (a := 1) (by decide); have g2 := lv_neT hkw4_2 (a := 2) (by decide); have g3 := lv_neT hkw4_3 (a := 3) (by decide); have g4 := lv_neT hkw4_4 (a := 4) (by decide); have g5 := lv_neT hkw4_5 (a := 5) (by decide); omega) (by decide) ?_
                refine lv_ldc hx hb hown (hk.wd wd_938 args) dX11_about_95 ?_
                exact m_iret hx hb hr hlocks hH hE hF rfl dX11_about_97
  · have hF := bq_t hc2 hF
    refine lv_ldc hx hb hown (hk.wd wd_938 args) dX11_about_8 ?_
    exact m_iret hx hb hr hlocks hH hE hF rfl dX11_about_10

def F_X11_turn (o : Nat) (x1 : Int32) (x2 : Int32) : St (Int32) :=
  bd (dr [10] (some o)) fun q2 => bd (F_X11_isCurve q2.1 x1) fun c1 => br (c1 = 0) (rt (-2 : Int32)) (br (0 ≤ x2) (bd (dr [10] (some o)) fun q6 => bd (F_X11_turning q6.1 x1 x2) fun c5 => rt c5) (rt (-1 : Int32)))
set_option maxHeartbeats 4000000 in
set_option maxRecDepth 100000 in
theorem t_X11_turn (l : Launch) (D : va_G) (cy : Nat → ClassId) (z : Nat) (o : Nat) (x1 : Int32) (x2 : Int32) : MT l D cy z yX11_turn cX11_turn 3 (some .int) 2 66 (F_X11_turn o x1 x2) vI [.ref o, .int x1, .int x2] := by
  refine m_enter [(0, .ref o), (1, .int x1), (2, .int x2)] (by decide) (by first | rfl | simp [lv_args, m_cat, m_ci, m_cl, m_cf, m_cd, m_cr]) (by first | exact Nat.le_of_ble_eq_true rfl | simp [lg_sl, m_cat, m_ci, m_cl, m_cf, m_cd, m_cr]) ?_
  intro p e R s m args below meth c ws0 wsf rr cx hE ws H locs cells slots ls hl hH hF
  obtain ⟨hx, hb, hr, hml, hown, hk, hz, hlocks, hnm, hfr, hlo⟩ := id cx
  unfold F_X11_turn at hF
  refine lv_aload_n hx hb dX11_turn_0 rfl (lv_at hl 0 rfl) ?_
  refine lv_iload_n hx hb dX11_turn_1 rfl (lv_at hl 1 rfl) ?_
  refine m_cVI hx hb hml hown hk hH hE.le hz (F := fun q2 => F_X11_isCurve q2.1 x1) (C := RX11) (T := TX11) (N := 22) rfl (As := [.int x1]) (rest := []) (fun o => t_X11_isCurve l D cy z o x1) hF wd_903 wd_905 wd_38 wd_906 wd_19 yn_X11_isCurve ⟨Nat.le_trans (by decide) hfr, Nat.le_trans (by decide) hlo⟩ hl.1 (by first | exact Nat.le_of_ble_eq_true rfl | simp [m_cat, m_ci, m_cl, m_cf, m_cd, m_cr]) rfl dX11_turn_2 (fun c1 ws H locs cells slots hH hF => ?_)
  refine lv_if_ne (tgt := 13) hx hb dX11_turn_5 (by decide) (fun hc2 => ?_) (fun hc2 => ?_)
  · have hF := bq_f hc2 hF
    refine lv_iload_n hx hb dX11_turn_13 rfl (lv_at hl 2 rfl) ?_
    refine lv_if_ge (tgt := 21) hx hb dX11_turn_14 (by decide) (fun hc3 => ?_) (fun hc3 => ?_)
    · have hF := bq_t hc3 hF
      refine lv_aload_n hx hb dX11_turn_21 rfl (lv_at hl 0 rfl) ?_
      refine lv_iload_n hx hb dX11_turn_22 rfl (lv_at hl 1 rfl) ?_
      refine lv_iload_n hx hb dX11_turn_23 rfl (lv_at hl 2 rfl) ?_
      refine m_cVI hx hb hml hown hk hH hE.le hz (F := fun q6 => F_X11_turning q6.1 x1 x2) (C := RX11) (T := TX11) (N := 22) rfl (As := [.int x1, .int x2]) (rest := []) (fun o => t_X11_turning l D cy z o x1 x2) hF wd_947 wd_949 wd_38 wd_950 wd_23 yn_X11_turning ⟨Nat.le_trans (by decide) hfr, Nat.le_trans (by decide) hlo⟩ hl.1 (by first | exact Nat.le_of_ble_eq_true rfl | simp [m_cat, m_ci, m_cl, m_cf, m_cd, m_cr]) rfl dX11_turn_24 (fun c5 ws H locs cells slots hH hF => ?_)
      exact m_iret hx hb hr hlocks hH hE hF rfl dX11_turn_27
    · have hF := bq_f hc3 hF
      refine lv_iconst (v := (-1)) hx hb dX11_turn_17 (by decide) ?_
      refine lv_goto (tgt := 27) hx hb dX11_turn_18 (by decide) ?_
      exact m_iret hx hb hr hlocks hH hE hF rfl dX11_turn_27
  · have hF := bq_t hc2 hF
    refine lv_bipush (v := (-2)) hx hb dX11_turn_8 (by decide) ?_
    refine lv_goto (tgt := 27) hx hb dX11_turn_10 (by decide) ?_
    exact m_iret hx hb hr hlocks hH hE hF rfl dX11_turn_27

def F_X11_far (o : Nat) (x1 : Int32) (x2 : Int32) (x3 : Int32) : St (Int64) :=
  bd (dr [10] (some o)) fun q2 => bd (F_X11_of q2.1 x1 x2) fun c1 => bd (rt (c1.toInt64 - x3.toInt64)) fun v3 => br (0 ≤ (lg_cmp v3 (0 : Int64))) (rt v3) (rt (-v3))
set_option maxHeartbeats 4000000 in
set_option maxRecDepth 100000 in
theorem t_X11_far (l : Launch) (D : va_G) (cy : Nat → ClassId) (z : Nat) (o : Nat) (x1 : Int32) (x2 : Int32) (x3 : Int32) : MT l D cy z yX11_far cX11_far 6 (some .long) 1 40 (F_X11_far o x1 x2 x3) vL [.ref o, .int x1, .int x2, .int x3] := by
  refine m_enter [(0, .ref o), (1, .int x1), (2, .int x2), (3, .int x3)] (by decide) (by first | rfl | simp [lv_args, m_cat, m_ci, m_cl, m_cf, m_cd, m_cr]) (by first | exact Nat.le_of_ble_eq_true rfl | simp [lg_sl, m_cat, m_ci, m_cl, m_cf, m_cd, m_cr]) ?_
  intro p e R s m args below meth c ws0 wsf rr cx hE ws H locs cells slots ls hl hH hF
  obtain ⟨hx, hb, hr, hml, hown, hk, hz, hlocks, hnm, hfr, hlo⟩ := id cx
  unfold F_X11_far at hF
  refine lv_aload_n hx hb dX11_far_0 rfl (lv_at hl 0 rfl) ?_
  refine lv_iload_n hx hb dX11_far_1 rfl (lv_at hl 1 rfl) ?_
  refine lv_iload_n hx hb dX11_far_2 rfl (lv_at hl 2 rfl) ?_
  refine m_cVI hx hb hml hown hk hH hE.le hz (F := fun q2 => F_X11_of q2.1 x1 x2) (C := RX11) (T := TX11) (N := 22) rfl (As := [.int x1, .int x2]) (rest := []) (fun o => t_X11_of l D cy z o x1 x2) hF wd_914 wd_916 wd_38 wd_917 wd_21 yn_X11_of ⟨Nat.le_trans (by decide) hfr, Nat.le_trans (by decide) hlo⟩ hl.1 (by first | exact Nat.le_of_ble_eq_true rfl | simp [m_cat, m_ci, m_cl, m_cf, m_cd, m_cr]) rfl dX11_far_3 (fun c1 ws H locs cells slots hH hF => ?_)
  refine lv_i2l hx hb dX11_far_6 rfl ?_
  refine lv_iload_n hx hb dX11_far_7 rfl (lv_at hl 3 rfl) ?_
  refine lv_i2l hx hb dX11_far_8 rfl ?_
  refine lv_lsub hx hb dX11_far_9 ?_
  refine lv_topl (fun v3 hv3 => ?_)
  have hF := rt_t hv3 hF
  refine lv_lstore (lv' := [(4, .long v3), (0, .ref o), (1, .int x1), (2, .int x2), (3, .int x3)]) hx hb dX11_far_10 hl (by decide) (by first | rfl | simp [m_cat, m_ci, m_cl, m_cf, m_cd, m_cr]) (fun ls hl => ?_)
  refine lv_lload hx hb dX11_far_12 (lv_at hl 0 rfl) ?_
  refine lv_lconst (v := (0)) hx hb dX11_far_14 (by decide) ?_
  refine W.lcmp hx hb dX11_far_15 ?_
  refine lv_if_ge (tgt := 25) hx hb dX11_far_16 (by decide) (fun hc3 => ?_) (fun hc3 => ?_)
  · have hF := bq_t hc3 hF
    refine lv_lload hx hb dX11_far_25 (lv_at hl 0 rfl) ?_
    exact m_lret hx hb hr hlocks hH hE hF dX11_far_27
  · have hF := bq_f hc3 hF
    refine lv_lload hx hb dX11_far_19 (lv_at hl 0 rfl) ?_
    refine lv_lneg hx hb dX11_far_21 ?_
    refine lv_goto (tgt := 27) hx hb dX11_far_22 (by decide) ?_
    exact m_lret hx hb hr hlocks hH hE hF dX11_far_27

def j_X11_inverse_59 (rec : Int32 → Int32 → St (Int32)) (k : Int32 → St (Int32)) (x0 : Nat) (x1 : Int32) (x2 : Int32) (x4 : Int32) (s0 : Int32) : St (Int32) :=
  rec s0 (x4 + (1 : Int32))
def b_X11_inverse_26 (x0 : Nat) (x1 : Int32) (x2 : Int32) (rec : Int32 → Int32 → St (Int32)) (k : Int32 → St (Int32)) (x3 : Int32) (x4 : Int32) : St (Int32) :=
  br ((4096 : Int32) ≤ x4) (k x3) (bd (dr [10] (some x0)) fun q9 => bd (F_X11_far q9.1 x1 x4 x2) fun c8 => bd (dr [10] (some x0)) fun q11 => bd (F_X11_far q11.1 x1 x3 x2) fun c10 => br (0 ≤ (lg_cmp c8 c10)) (j_X11_inverse_59 rec k x0 x1 x2 x4 x3) (j_X11_inverse_59 rec k x0 x1 x2 x4 x4))
def l_X11_inverse_26 (x0 : Nat) (x1 : Int32) (x2 : Int32) (k : Int32 → St (Int32)) : Nat → Int32 → Int32 → St (Int32)
  | 0 => fun _ _ => fl
  | n + 1 => fun x3 x4 => b_X11_inverse_26 x0 x1 x2 (l_X11_inverse_26 x0 x1 x2 k n) k x3 x4
def F_X11_inverse (o : Nat) (x1 : Int32) (x2 : Int32) : St (Int32) :=
  bd (dr [10] (some o)) fun q2 => bd (F_X11_isCurve q2.1 x1) fun c1 => br (c1 = 0) (rt (-2 : Int32)) (bd (dr [10] (some o)) fun q5 => bd (F_X11_way q5.1 x1) fun c4 => br (c4 = 0) (rt (-1 : Int32)) (l_X11_inverse_26 o x1 x2 (fun (e13 : Int32) => rt e13) FU (0 : Int32) (1 : Int32)))
set_option maxHeartbeats 4000000 in
set_option maxRecDepth 100000 in
theorem w_X11_inverse_59 {l : Launch} {D : va_G} {cy : Nat → ClassId} {z : Nat} {p : Program} {e : Env} {R : Room} {s : State} {m : MethodId} {args : Array Value} {below : List Frame} {meth : Method} {c : Code} {ws0 wsf : WS} {rr : Int32} (cx : Cx D cy z RX11 cX11_inverse 5 (some .int) 2 65 "inverse" p R s m meth c) (hE : AC ws0 wsf R.cells R.slots) (rec : Int32 → Int32 → St (Int32)) (k : Int32 → St (Int32)) (x0 : Nat) (x1 : Int32) (x2 : Int32) (hrec : ∀ (x3 : Int32) (x4 : Int32), At_ l D cy z p e R s m args below meth c ws0 wsf vI rr 5 26 [(0, .ref x0), (1, .int x1), (2, .int x2), (3, .int x3), (4, .int x4)] [] (rec x3 x4)) (hkk : ∀ (x3 : Int32), At_ l D cy z p e R s m args below meth c ws0 wsf vI rr 5 66 [(3, .int x3)] [] (k x3)) (x4 : Int32) (s0 : Int32) : At_ l D cy z p e R s m args below meth c ws0 wsf vI rr 5 59 [(0, .ref x0), (1, .int x1), (2, .int x2), (4, .int x4)] [.int s0] (j_X11_inverse_59 rec k x0 x1 x2 x4 s0) := by
  intro ws H locs cells slots ls hl hH hF
  obtain ⟨hx, hb, hr, hml, hown, hk, hz, hlocks, hnm, hfr, hlo⟩ := id cx
  unfold j_X11_inverse_59 at hF
  refine lv_istore_n (lv' := [(3, .int s0), (0, .ref x0), (1, .int x1), (2, .int x2), (4, .int x4)]) hx hb dX11_inverse_59 rfl hl (by decide) (by first | rfl | simp [m_cat, m_ci, m_cl, m_cf, m_cd, m_cr]) (fun ls hl => ?_)
  refine lv_iinc (v := (x4 + (1 : Int32))) (lv' := [(4, .int (x4 + (1 : Int32))), (3, .int s0), (0, .ref x0), (1, .int x1), (2, .int x2)]) hx hb dX11_inverse_60 hl (k := 4) rfl (by first | rfl | (congr 1)) (by decide) (by first | rfl | simp [m_cat, m_ci, m_cl, m_cf, m_cd, m_cr]) (fun ls hl => ?_)
  refine lv_goto (tgt := 26) hx hb dX11_inverse_63 (by decide) ?_
  exact hrec _ _ _ _ _ _ _ _ (lv_sub hl [2, 3, 4, 1, 0] rfl) hH hF
set_option maxHeartbeats 4000000 in
set_option maxRecDepth 100000 in
theorem wb_X11_inverse_26 {l : Launch} {D : va_G} {cy : Nat → ClassId} {z : Nat} {p : Program} {e : Env} {R : Room} {s : State} {m : MethodId} {args : Array Value} {below : List Frame} {meth : Method} {c : Code} {ws0 wsf : WS} {rr : Int32} (cx : Cx D cy z RX11 cX11_inverse 5 (some .int) 2 65 "inverse" p R s m meth c) (hE : AC ws0 wsf R.cells R.slots) (x0 : Nat) (x1 : Int32) (x2 : Int32) (rec : Int32 → Int32 → St (Int32)) (k : Int32 → St (Int32)) (hrec : ∀ (x3 : Int32) (x4 : Int32), At_ l D cy z p e R s m args below meth c ws0 wsf vI rr 5 26 [(0, .ref x0), (1, .int x1), (2, .int x2), (3, .int x3), (4, .int x4)] [] (rec x3 x4)) (hkk : ∀ (x3 : Int32), At_ l D cy z p e R s m args below meth c ws0 wsf vI rr 5 66 [(3, .int x3)] [] (k x3)) (x3 : Int32) (x4 : Int32) : At_ l D cy z p e R s m args below meth c ws0 wsf vI rr 5 26 [(0, .ref x0), (1, .int x1), (2, .int x2), (3, .int x3), (4, .int x4)] [] (b_X11_inverse_26 x0 x1 x2 rec k x3 x4) := by
  intro ws H locs cells slots ls hl hH hF
  obtain ⟨hx, hb, hr, hml, hown, hk, hz, hlocks, hnm, hfr, hlo⟩ := id cx
  unfold b_X11_inverse_26 at hF
  refine lv_iload hx hb dX11_inverse_26 (lv_at hl 4 rfl) ?_
  refine lv_sipush (v := (4096)) hx hb dX11_inverse_28 (by decide) ?_
  refine lv_icmp_ge (tgt := 66) hx hb dX11_inverse_31 (by decide) (fun hc6 => ?_) (fun hc6 => ?_)
  · have hF := bq_t hc6 hF
    exact hkk _ _ _ _ _ _ _ (lv_sub hl [3] rfl) hH hF
  · have hF := bq_f hc6 hF
    refine lv_aload_n hx hb dX11_inverse_34 rfl (lv_at hl 0 rfl) ?_
    refine lv_iload_n hx hb dX11_inverse_35 rfl (lv_at hl 1 rfl) ?_
    refine lv_iload hx hb dX11_inverse_36 (lv_at hl 4 rfl) ?_
    refine lv_iload_n hx hb dX11_inverse_38 rfl (lv_at hl 2 rfl) ?_
    refine m_cVL hx hb hml hown hk hH hE.le hz (F := fun q9 => F_X11_far q9.1 x1 x4 x2) (C := RX11) (T := TX11) (N := 22) rfl (As := [.int x1, .int x4, .int x2]) (rest := []) (fun o => t_X11_far l D cy z o x1 x4 x2) hF wd_963 wd_965 wd_38 wd_966 wd_25 yn_X11_far ⟨Nat.le_trans (by decide) hfr, Nat.le_trans (by decide) hlo⟩ hl.1 (by first | exact Nat.le_of_ble_eq_true rfl | simp [m_cat, m_ci, m_cl, m_cf, m_cd, m_cr]) rfl dX11_inverse_39 (fun c8 ws H locs cells slots hH hF => ?_)
    refine lv_aload_n hx hb dX11_inverse_42 rfl (lv_at hl 0 rfl) ?_
    refine lv_iload_n hx hb dX11_inverse_43 rfl (lv_at hl 1 rfl) ?_
    refine lv_iload_n hx hb dX11_inverse_44 rfl (lv_at hl 3 rfl) ?_
    refine lv_iload_n hx hb dX11_inverse_45 rfl (lv_at hl 2 rfl) ?_
    refine m_cVL hx hb hml hown hk hH hE.le hz (F := fun q11 => F_X11_far q11.1 x1 x3 x2) (C := RX11) (T := TX11) (N := 22) rfl (As := [.int x1, .int x3, .int x2]) (rest := [.long c8]) (fun o => t_X11_far l D cy z o x1 x3 x2) hF wd_963 wd_965 wd_38 wd_966 wd_25 yn_X11_far ⟨Nat.le_trans (by decide) hfr, Nat.le_trans (by decide) hlo⟩ hl.1 (by first | exact Nat.le_of_ble_eq_true rfl | simp [m_cat, m_ci, m_cl, m_cf, m_cd, m_cr]) rfl dX11_inverse_46 (fun c10 ws H locs cells slots hH hF => ?_)
    refine W.lcmp hx hb dX11_inverse_49 ?_
    refine lv_if_ge (tgt := 58) hx hb dX11_inverse_50 (by decide) (fun hc11 => ?_) (fun hc11 => ?_)
    · have hF := bq_t hc11 hF
      refine lv_iload_n hx hb dX11_inverse_58 rfl (lv_at hl 3 rfl) ?_
      exact w_X11_inverse_59 cx hE _ _ x0 x1 x2 hrec hkk x4 x3 _ _ _ _ _ _ (lv_sub hl [0, 1, 2, 4] rfl) hH hF
    · have hF := bq_f hc11 hF
      refine lv_iload hx hb dX11_inverse_53 (lv_at hl 4 rfl) ?_
      refine lv_goto (tgt := 59) hx hb dX11_inverse_55 (by decide) ?_
      exact w_X11_inverse_59 cx hE _ _ x0 x1 x2 hrec hkk x4 x4 _ _ _ _ _ _ (lv_sub hl [0, 1, 2, 4] rfl) hH hF
theorem w_X11_inverse_26 {l : Launch} {D : va_G} {cy : Nat → ClassId} {z : Nat} {p : Program} {e : Env} {R : Room} {s : State} {m : MethodId} {args : Array Value} {below : List Frame} {meth : Method} {c : Code} {ws0 wsf : WS} {rr : Int32} (cx : Cx D cy z RX11 cX11_inverse 5 (some .int) 2 65 "inverse" p R s m meth c) (hE : AC ws0 wsf R.cells R.slots) (x0 : Nat) (x1 : Int32) (x2 : Int32) (k : Int32 → St (Int32)) (hkk : ∀ (x3 : Int32), At_ l D cy z p e R s m args below meth c ws0 wsf vI rr 5 66 [(3, .int x3)] [] (k x3)) : ∀ (n : Nat) (x3 : Int32) (x4 : Int32), At_ l D cy z p e R s m args below meth c ws0 wsf vI rr 5 26 [(0, .ref x0), (1, .int x1), (2, .int x2), (3, .int x3), (4, .int x4)] [] (l_X11_inverse_26 x0 x1 x2 k n x3 x4) := by
  intro n
  induction n with
  | zero =>
    intro x3 x4 ws H locs cells slots ls hl hH hF
    exact fl_t hF
  | succ n ih =>
    intro x3 x4
    exact wb_X11_inverse_26 cx hE x0 x1 x2 (l_X11_inverse_26 x0 x1 x2 k n) k ih hkk x3 x4
set_option maxHeartbeats 4000000 in
set_option maxRecDepth 100000 in
theorem t_X11_inverse (l : Launch) (D : va_G) (cy : Nat → ClassId) (z : Nat) (o : Nat) (x1 : Int32) (x2 : Int32) : MT l D cy z yX11_inverse cX11_inverse 5 (some .int) 2 65 (F_X11_inverse o x1 x2) vI [.ref o, .int x1, .int x2] := by
  refine m_enter [(0, .ref o), (1, .int x1), (2, .int x2)] (by decide) (by first | rfl | simp [lv_args, m_cat, m_ci, m_cl, m_cf, m_cd, m_cr]) (by first | exact Nat.le_of_ble_eq_true rfl | simp [lg_sl, m_cat, m_ci, m_cl, m_cf, m_cd, m_cr]) ?_
  intro p e R s m args below meth c ws0 wsf rr cx hE ws H locs cells slots ls hl hH hF
  obtain ⟨hx, hb, hr, hml, hown, hk, hz, hlocks, hnm, hfr, hlo⟩ := id cx
  unfold F_X11_inverse at hF
  refine lv_aload_n hx hb dX11_inverse_0 rfl (lv_at hl 0 rfl) ?_
  refine lv_iload_n hx hb dX11_inverse_1 rfl (lv_at hl 1 rfl) ?_
  refine m_cVI hx hb hml hown hk hH hE.le hz (F := fun q2 => F_X11_isCurve q2.1 x1) (C := RX11) (T := TX11) (N := 22) rfl (As := [.int x1]) (rest := []) (fun o => t_X11_isCurve l D cy z o x1) hF wd_903 wd_905 wd_38 wd_906 wd_19 yn_X11_isCurve ⟨Nat.le_trans (by decide) hfr, Nat.le_trans (by decide) hlo⟩ hl.1 (by first | exact Nat.le_of_ble_eq_true rfl | simp [m_cat, m_ci, m_cl, m_cf, m_cd, m_cr]) rfl dX11_inverse_2 (fun c1 ws H locs cells slots hH hF => ?_)
  refine lv_if_ne (tgt := 11) hx hb dX11_inverse_5 (by decide) (fun hc2 => ?_) (fun hc2 => ?_)
  · have hF := bq_f hc2 hF
    refine lv_aload_n hx hb dX11_inverse_11 rfl (lv_at hl 0 rfl) ?_
    refine lv_iload_n hx hb dX11_inverse_12 rfl (lv_at hl 1 rfl) ?_
    refine m_cVI hx hb hml hown hk hH hE.le hz (F := fun q5 => F_X11_way q5.1 x1) (C := RX11) (T := TX11) (N := 22) rfl (As := [.int x1]) (rest := []) (fun o => t_X11_way l D cy z o x1) hF wd_943 wd_945 wd_38 wd_946 wd_22 yn_X11_way ⟨Nat.le_trans (by decide) hfr, Nat.le_trans (by decide) hlo⟩ hl.1 (by first | exact Nat.le_of_ble_eq_true rfl | simp [m_cat, m_ci, m_cl, m_cf, m_cd, m_cr]) rfl dX11_inverse_13 (fun c4 ws H locs cells slots hH hF => ?_)
    refine lv_if_ne (tgt := 21) hx hb dX11_inverse_16 (by decide) (fun hc5 => ?_) (fun hc5 => ?_)
    · have hF := bq_f hc5 hF
      refine lv_iconst (v := (0)) hx hb dX11_inverse_21 (by decide) ?_
      refine lv_istore_n (lv' := [(3, .int (0 : Int32)), (0, .ref o), (1, .int x1), (2, .int x2)]) hx hb dX11_inverse_22 rfl hl (by decide) (by first | rfl | simp [m_cat, m_ci, m_cl, m_cf, m_cd, m_cr]) (fun ls hl => ?_)
      refine lv_iconst (v := (1)) hx hb dX11_inverse_23 (by decide) ?_
      refine lv_istore (lv' := [(4, .int (1 : Int32)), (3, .int (0 : Int32)), (0, .ref o), (1, .int x1), (2, .int x2)]) hx hb dX11_inverse_24 hl (by decide) (by first | rfl | simp [m_cat, m_ci, m_cl, m_cf, m_cd, m_cr]) (fun ls hl => ?_)
      refine w_X11_inverse_26 cx hE o x1 x2 _ (fun e13 ws H locs cells slots ls hl hH hF => ?_) _ _ _ _ _ _ _ _ _ (lv_sub hl [2, 3, 4, 1, 0] rfl) hH hF
      refine lv_iload_n hx hb dX11_inverse_66 rfl (lv_at hl 0 rfl) ?_
      exact m_iret hx hb hr hlocks hH hE hF rfl dX11_inverse_67
    · have hF := bq_t hc5 hF
      refine lv_iconst (v := (-1)) hx hb dX11_inverse_19 (by decide) ?_
      exact m_iret hx hb hr hlocks hH hE hF rfl dX11_inverse_20
  · have hF := bq_t hc2 hF
    refine lv_bipush (v := (-2)) hx hb dX11_inverse_8 (by decide) ?_
    exact m_iret hx hb hr hlocks hH hE hF rfl dX11_inverse_10

def F_X11_rest (o : Nat) (x1 : Int32) (x2 : Int32) (x3 : Int32) : St (Int32) :=
  bd (gR [10] 2 (some o)) fun v1 => bd (aI 0 v1 (((24 : Int32) * x1) + x2)) fun v2 => bd (gR [10] 1 (some o)) fun v3 => bd (aI 0 v3 (((24 : Int32) * x1) + x2)) fun v4 => bd (dr [10] (some o)) fun q6 => bd (F_X11_of q6.1 x3 v4) fun c5 => rt (v2 - c5)
set_option maxHeartbeats 4000000 in
set_option maxRecDepth 100000 in
theorem t_X11_rest (l : Launch) (D : va_G) (cy : Nat → ClassId) (z : Nat) (o : Nat) (x1 : Int32) (x2 : Int32) (x3 : Int32) : MT l D cy z yX11_rest cX11_rest 4 (some .int) 1 40 (F_X11_rest o x1 x2 x3) vI [.ref o, .int x1, .int x2, .int x3] := by
  refine m_enter [(0, .ref o), (1, .int x1), (2, .int x2), (3, .int x3)] (by decide) (by first | rfl | simp [lv_args, m_cat, m_ci, m_cl, m_cf, m_cd, m_cr]) (by first | exact Nat.le_of_ble_eq_true rfl | simp [lg_sl, m_cat, m_ci, m_cl, m_cf, m_cd, m_cr]) ?_
  intro p e R s m args below meth c ws0 wsf rr cx hE ws H locs cells slots ls hl hH hF
  obtain ⟨hx, hb, hr, hml, hown, hk, hz, hlocks, hnm, hfr, hlo⟩ := id cx
  unfold F_X11_rest at hF
  refine lv_aload_n hx hb dX11_rest_0 rfl (lv_at hl 0 rfl) ?_
  refine m_gR hx hb hown hk hH hF fk_RX11_reference lk_RX11_16 dX11_rest_1 (fun v1 hF => ?_)
  refine lv_bipush (v := (24)) hx hb dX11_rest_4 (by decide) ?_
  refine lv_iload_n hx hb dX11_rest_6 rfl (lv_at hl 1 rfl) ?_
  refine lv_imul hx hb dX11_rest_7 ?_
  refine lv_iload_n hx hb dX11_rest_8 rfl (lv_at hl 2 rfl) ?_
  refine lv_iadd hx hb dX11_rest_9 ?_
  refine m_aI0 hx hb hk hH hF dX11_rest_10 (fun v2 hF => ?_)
  refine lv_aload_n hx hb dX11_rest_11 rfl (lv_at hl 0 rfl) ?_
  refine lv_iload_n hx hb dX11_rest_12 rfl (lv_at hl 3 rfl) ?_
  refine lv_aload_n hx hb dX11_rest_13 rfl (lv_at hl 0 rfl) ?_
  refine m_gR hx hb hown hk hH hF fk_RX11_count lk_RX11_13 dX11_rest_14 (fun v3 hF => ?_)
  refine lv_bipush (v := (24)) hx hb dX11_rest_17 (by decide) ?_
  refine lv_iload_n hx hb dX11_rest_19 rfl (lv_at hl 1 rfl) ?_
  refine lv_imul hx hb dX11_rest_20 ?_
  refine lv_iload_n hx hb dX11_rest_21 rfl (lv_at hl 2 rfl) ?_
  refine lv_iadd hx hb dX11_rest_22 ?_
  refine m_aI0 hx hb hk hH hF dX11_rest_23 (fun v4 hF => ?_)
  refine m_cVI hx hb hml hown hk hH hE.le hz (F := fun q6 => F_X11_of q6.1 x3 v4) (C := RX11) (T := TX11) (N := 22) rfl (As := [.int x3, .int v4]) (rest := [.int v2]) (fun o => t_X11_of l D cy z o x3 v4) hF wd_914 wd_916 wd_38 wd_917 wd_21 yn_X11_of ⟨Nat.le_trans (by decide) hfr, Nat.le_trans (by decide) hlo⟩ hl.1 (by first | exact Nat.le_of_ble_eq_true rfl | simp [m_cat, m_ci, m_cl, m_cf, m_cd, m_cr]) rfl dX11_rest_24 (fun c5 ws H locs cells slots hH hF => ?_)
  refine lv_isub hx hb dX11_rest_27 ?_
  exact m_iret hx hb hr hlocks hH hE hF rfl dX11_rest_28

def F_X11_residual (o : Nat) (x1 : Int32) (x2 : Int32) (x3 : Int32) : St (Int32) :=
  bd (dr [10] (some o)) fun q2 => bd (F_X11_isReading q2.1 x1 x2) fun c1 => br (c1 = 0) (rt (-2000000 : Int32)) (bd (dr [10] (some o)) fun q5 => bd (F_X11_isCurve q5.1 x3) fun c4 => br (c4 = 0) (rt (-2000000 : Int32)) (bd (dr [10] (some o)) fun q8 => bd (F_X11_rest q8.1 x1 x2 x3) fun c7 => rt c7))
set_option maxHeartbeats 4000000 in
set_option maxRecDepth 100000 in
theorem t_X11_residual (l : Launch) (D : va_G) (cy : Nat → ClassId) (z : Nat) (o : Nat) (x1 : Int32) (x2 : Int32) (x3 : Int32) : MT l D cy z yX11_residual cX11_residual 4 (some .int) 2 63 (F_X11_residual o x1 x2 x3) vI [.ref o, .int x1, .int x2, .int x3] := by
  refine m_enter [(0, .ref o), (1, .int x1), (2, .int x2), (3, .int x3)] (by decide) (by first | rfl | simp [lv_args, m_cat, m_ci, m_cl, m_cf, m_cd, m_cr]) (by first | exact Nat.le_of_ble_eq_true rfl | simp [lg_sl, m_cat, m_ci, m_cl, m_cf, m_cd, m_cr]) ?_
  intro p e R s m args below meth c ws0 wsf rr cx hE ws H locs cells slots ls hl hH hF
  obtain ⟨hx, hb, hr, hml, hown, hk, hz, hlocks, hnm, hfr, hlo⟩ := id cx
  unfold F_X11_residual at hF
  refine lv_aload_n hx hb dX11_residual_0 rfl (lv_at hl 0 rfl) ?_
  refine lv_iload_n hx hb dX11_residual_1 rfl (lv_at hl 1 rfl) ?_
  refine lv_iload_n hx hb dX11_residual_2 rfl (lv_at hl 2 rfl) ?_
  refine m_cVI hx hb hml hown hk hH hE.le hz (F := fun q2 => F_X11_isReading q2.1 x1 x2) (C := RX11) (T := TX11) (N := 22) rfl (As := [.int x1, .int x2]) (rest := []) (fun o => t_X11_isReading l D cy z o x1 x2) hF wd_853 wd_855 wd_38 wd_856 wd_16 yn_X11_isReading ⟨Nat.le_trans (by decide) hfr, Nat.le_trans (by decide) hlo⟩ hl.1 (by first | exact Nat.le_of_ble_eq_true rfl | simp [m_cat, m_ci, m_cl, m_cf, m_cd, m_cr]) rfl dX11_residual_3 (fun c1 ws H locs cells slots hH hF => ?_)
  refine lv_if_eq (tgt := 27) hx hb dX11_residual_6 (by decide) (fun hc2 => ?_) (fun hc2 => ?_)
  · have hF := bq_t hc2 hF
    refine lv_ldc hx hb hown (hk.wd wd_938 args) dX11_residual_27 ?_
    exact m_iret hx hb hr hlocks hH hE hF rfl dX11_residual_29
  · have hF := bq_f hc2 hF
    refine lv_aload_n hx hb dX11_residual_9 rfl (lv_at hl 0 rfl) ?_
    refine lv_iload_n hx hb dX11_residual_10 rfl (lv_at hl 3 rfl) ?_
    refine m_cVI hx hb hml hown hk hH hE.le hz (F := fun q5 => F_X11_isCurve q5.1 x3) (C := RX11) (T := TX11) (N := 22) rfl (As := [.int x3]) (rest := []) (fun o => t_X11_isCurve l D cy z o x3) hF wd_903 wd_905 wd_38 wd_906 wd_19 yn_X11_isCurve ⟨Nat.le_trans (by decide) hfr, Nat.le_trans (by decide) hlo⟩ hl.1 (by first | exact Nat.le_of_ble_eq_true rfl | simp [m_cat, m_ci, m_cl, m_cf, m_cd, m_cr]) rfl dX11_residual_11 (fun c4 ws H locs cells slots hH hF => ?_)
    refine lv_if_eq (tgt := 27) hx hb dX11_residual_14 (by decide) (fun hc5 => ?_) (fun hc5 => ?_)
    · have hF := bq_t hc5 hF
      refine lv_ldc hx hb hown (hk.wd wd_938 args) dX11_residual_27 ?_
      exact m_iret hx hb hr hlocks hH hE hF rfl dX11_residual_29
    · have hF := bq_f hc5 hF
      refine lv_aload_n hx hb dX11_residual_17 rfl (lv_at hl 0 rfl) ?_
      refine lv_iload_n hx hb dX11_residual_18 rfl (lv_at hl 1 rfl) ?_
      refine lv_iload_n hx hb dX11_residual_19 rfl (lv_at hl 2 rfl) ?_
      refine lv_iload_n hx hb dX11_residual_20 rfl (lv_at hl 3 rfl) ?_
      refine m_cVI hx hb hml hown hk hH hE.le hz (F := fun q8 => F_X11_rest q8.1 x1 x2 x3) (C := RX11) (T := TX11) (N := 22) rfl (As := [.int x1, .int x2, .int x3]) (rest := []) (fun o => t_X11_rest l D cy z o x1 x2 x3) hF wd_971 wd_973 wd_38 wd_974 wd_26 yn_X11_rest ⟨Nat.le_trans (by decide) hfr, Nat.le_trans (by decide) hlo⟩ hl.1 (by first | exact Nat.le_of_ble_eq_true rfl | simp [m_cat, m_ci, m_cl, m_cf, m_cd, m_cr]) rfl dX11_residual_21 (fun c7 ws H locs cells slots hH hF => ?_)
      refine lv_goto (tgt := 29) hx hb dX11_residual_24 (by decide) ?_
      exact m_iret hx hb hr hlocks hH hE hF rfl dX11_residual_29
