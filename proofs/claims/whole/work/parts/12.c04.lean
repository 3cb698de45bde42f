def F_X9_init (o : Nat) : St (Unit) :=
  bd (nA 5 (257 : Int32)) fun a1 => bd (pV [8] 0 (some o) (va_rf (some a1))) fun _ => bd (pV [8] 1 (some o) (va_rf none)) fun _ => bd (pV [8] 2 (some o) (.int (256 : Int32))) fun _ => bd (pV [8] 3 (some o) (.int (0 : Int32))) fun _ => bd (pV [8] 4 (some o) (.double FP.dconst0)) fun _ => bd (pV [8] 5 (some o) (.int (-1 : Int32))) fun _ => rt ()
set_option maxHeartbeats 4000000 in
set_option maxRecDepth 100000 in
theorem t_X9_init (l : Launch) (D : va_G) (cy : Nat → ClassId) (z : Nat) (o : Nat) : MT l D cy z yX9_init cX9_init 1 none 1 40 (F_X9_init o) vU [.ref o] := by
  refine m_enter [(0, .ref o)] (by decide) (by first | rfl | simp [lv_args, m_cat, m_ci, m_cl, m_cf, m_cd, m_cr]) (by first | exact Nat.le_of_ble_eq_true rfl | simp [lg_sl, m_cat, m_ci, m_cl, m_cf, m_cd, m_cr]) ?_
  intro p e R s m args below meth c ws0 wsf rr cx hE ws H locs cells slots ls hl hH hF
  obtain ⟨hx, hb, hr, hml, hown, hk, hz, hlocks, hnm, hfr, hlo⟩ := id cx
  unfold F_X9_init at hF
  refine lv_aload_n hx hb dX9_init_0 rfl (lv_at hl 0 rfl) ?_
  refine W.objInit hx hb hown (hk.wd wd_626 args) (hk.wd wd_52 args) (hk.wd wd_53 args) rfl (by rw [hml]; exact hl.1) rfl dX9_init_1 (Nat.le_trans (by decide) hfr) (Nat.le_trans (m := 40) (by first | exact Nat.le_of_ble_eq_true rfl | simp [m_cat, m_ci, m_cl, m_cf, m_cd, m_cr]) (Nat.le_trans (by decide) hlo)) ?_
  refine W.eq (g2 := F0 m 4 ls []) rfl ?_
  refine lv_aload_n hx hb dX9_init_4 rfl (lv_at hl 0 rfl) ?_
  refine lv_sipush (v := (257)) hx hb dX9_init_5 (by decide) ?_
  refine m_nA (t := 5) hx hb hk hH hE.le hz (by decide) rfl (by decide) wd_101 hF dX9_init_8 (fun a1 ws H hH hF => ?_)
  refine m_pVF hx hb hown hk hH hnm hF fk_RX9_entries wd_627 rfl pd_5 (m_nra _ _) (m_fra _ _) dX9_init_10 (fun ws H locs hH hF => ?_)
  refine lv_aload_n hx hb dX9_init_13 rfl (lv_at hl 0 rfl) ?_
  refine lv_null hx hb dX9_init_14 ?_
  refine m_pV hx hb hown hk hH hF fk_RX9_curve lk_RX9_15 pd_12 (m_nrf _ _) (m_frf _ _) dX9_init_15 (fun ws H locs hH hF => ?_)
  refine lv_aload_n hx hb dX9_init_18 rfl (lv_at hl 0 rfl) ?_
  refine lv_sipush (v := (256)) hx hb dX9_init_19 (by decide) ?_
  refine m_pV hx hb hown hk hH hF fk_RX9_step lk_RX9_19 pd_9 rfl rfl dX9_init_22 (fun ws H locs hH hF => ?_)
  refine lv_aload_n hx hb dX9_init_25 rfl (lv_at hl 0 rfl) ?_
  refine lv_iconst (v := (0)) hx hb dX9_init_26 (by decide) ?_
  refine m_pV hx hb hown hk hH hF fk_RX9_size lk_RX9_23 pd_9 rfl rfl dX9_init_27 (fun ws H locs hH hF => ?_)
  refine lv_aload_n hx hb dX9_init_30 rfl (lv_at hl 0 rfl) ?_
  refine lv_dconst0 hx hb dX9_init_31 ?_
  refine m_pV hx hb hown hk hH hF fk_RX9_farthest lk_RX9_26 pd_13 rfl rfl dX9_init_32 (fun ws H locs hH hF => ?_)
  refine lv_aload_n hx hb dX9_init_35 rfl (lv_at hl 0 rfl) ?_
  refine lv_iconst (v := (-1)) hx hb dX9_init_36 (by decide) ?_
  refine m_pV hx hb hown hk hH hF fk_RX9_farthestAt lk_RX9_30 pd_9 rfl rfl dX9_init_37 (fun ws H locs hH hF => ?_)
  exact m_vret hx hb hr hlocks hH hE hF dX9_init_40

def b_X9_become_28 (x0 : Nat) (x1 : Option Nat) (x2 : Int32) (rec : Int32 → St (Int32)) (k : St (Int32)) (x3 : Int32) : St (Int32) :=
  bd (gI [8] 3 (some x0)) fun v2 => br (v2 ≤ x3) (k) (bd (gR [8] 0 (some x0)) fun v4 => bd (F_X10_nearestCount (x3 * x2)) fun c5 => bd (dr [3, 4, 6] x1) fun q7 => bd (F_X1_at 64 q7.1 c5) fun c6 => bd (ck ((FP.fmul (FP.i2f c6) (981668463 : UInt32)) &&& 0x7fffffff ≤ 0x7f800000)) fun _ => bd (rt (FP.fmul (FP.i2f c6) (981668463 : UInt32))) fun r8 => bd (sF v4 x3 r8) fun _ => rec (x3 + (1 : Int32)))
def l_X9_become_28 (x0 : Nat) (x1 : Option Nat) (x2 : Int32) (k : St (Int32)) : Nat → Int32 → St (Int32)
  | 0 => fun _ => fl
  | n + 1 => fun x3 => b_X9_become_28 x0 x1 x2 (l_X9_become_28 x0 x1 x2 k n) k x3
def F_X9_become (o : Nat) (x1 : Option Nat) (x2 : Int32) : St (Int32) :=
  bd (pV [8] 1 (some o) (va_rf x1)) fun _ => bd (pV [8] 2 (some o) (.int x2)) fun _ => bd (ck (¬ x2 = 0)) fun _ => bd (pV [8] 3 (some o) (.int (((4096 : Int32) / x2) + (1 : Int32)))) fun _ => bd (pV [8] 5 (some o) (.int (-1 : Int32))) fun _ => l_X9_become_28 o x1 x2 (bd (gI [8] 3 (some o)) fun v9 => rt v9) FU (0 : Int32)
set_option maxHeartbeats 4000000 in
set_option maxRecDepth 100000 in
theorem wb_X9_become_28 {l : Launch} {D : va_G} {cy : Nat → ClassId} {z : Nat} {p : Program} {e : Env} {R : Room} {s : State} {m : MethodId} {args : Array Value} {below : List Frame} {meth : Method} {c : Code} {ws0 wsf : WS} {rr : Int32} (cx : Cx D cy z RX9 cX9_become 4 (some .int) 326 9921 "become" p R s m meth c) (hE : AC ws0 wsf R.cells R.slots) (x0 : Nat) (x1 : Option Nat) (x2 : Int32) (rec : Int32 → St (Int32)) (k : St (Int32)) (hrec : ∀ (x3 : Int32), At_ l D cy z p e R s m args below meth c ws0 wsf vI rr 4 28 [(0, .ref x0), (1, va_rf x1), (2, .int x2), (3, .int x3)] [] (rec x3)) (hkk : At_ l D cy z p e R s m args below meth c ws0 wsf vI rr 4 62 [(0, .ref x0)] [] (k)) (x3 : Int32) : At_ l D cy z p e R s m args below meth c ws0 wsf vI rr 4 28 [(0, .ref x0), (1, va_rf x1), (2, .int x2), (3, .int x3)] [] (b_X9_become_28 x0 x1 x2 rec k x3) := by
  intro ws H locs cells slots ls hl hH hF
  obtain ⟨hx, hb, hr, hml, hown, hk, hz, hlocks, hnm, hfr, hlo⟩ := id cx
  unfold b_X9_become_28 at hF
  refine lv_iload_n hx hb dX9_become_28 rfl (lv_at hl 3 rfl) ?_
  refine lv_aload_n hx hb dX9_become_29 rfl (lv_at hl 0 rfl) ?_
  refine m_gI hx hb hown hk hH hF fk_RX9_size lk_RX9_23 dX9_become_30 (fun v2 hF => ?_)
  refine lv_icmp_ge (tgt := 62) hx hb dX9_become_33 (by decide) (fun hc2 => ?_) (fun hc2 => ?_)
  · have hF := bq_t hc2 hF
    exact hkk _ _ _ _ _ _ (lv_sub hl [0] rfl) hH hF
  · have hF := bq_f hc2 hF
    refine lv_aload_n hx hb dX9_become_36 rfl (lv_at hl 0 rfl) ?_
    refine m_gR hx hb hown hk hH hF fk_RX9_entries lk_RX9_9 dX9_become_37 (fun v4 hF => ?_)
    refine lv_iload_n hx hb dX9_become_40 rfl (lv_at hl 3 rfl) ?_
    refine m_aload_n hx hb dX9_become_41 rfl (lv_at hl 1 rfl) ?_
    refine lv_iload_n hx hb dX9_become_42 rfl (lv_at hl 3 rfl) ?_
    refine lv_iload_n hx hb dX9_become_43 rfl (lv_at hl 2 rfl) ?_
    refine lv_imul hx hb dX9_become_44 ?_
    refine m_cSNI hx hb hml hown hk hH hE.le hz (As := [.int (x3 * x2)]) (rest := [va_rf x1, .int x3, va_rf v4]) (t_X10_nearestCount l D cy z (x3 * x2)) hF ⟨_, wd_653⟩ wd_445 wd_33 wd_446 yn_X10_nearestCount ⟨Nat.le_trans (by decide) hfr, Nat.le_trans (by decide) hlo⟩ hl.1 (by first | exact Nat.le_of_ble_eq_true rfl | simp [m_cat, m_ci, m_cl, m_cf, m_cd, m_cr]) rfl dX9_become_45 (fun c5 ws H locs cells slots hH hF => ?_)
    refine m_cUI hx hb hml hown hk hH hE.le hz (x := yX1_at) (owner := "CurveFoundry$Curve") (y := (fun _ => yX1_at)) (bytes := (fun _ => cX1_at)) (maxL := (fun _ => 2)) (fr := (fun _ => 325)) (lo := (fun _ => 9900)) (F := fun q7 => F_X1_at 64 q7.1 c5) (As := [.int c5]) (rest := [.int x3, va_rf v4]) (fun o => m_c3 (t_X1_at l D cy z 64 o c5) (t_X1_at l D cy z 64 o c5) (t_X1_at l D cy z 64 o c5)) hF wd_654 wd_399 (va_Decl.of (hk.wd wd_398 args) (hk.wd wd_403 args)) (m_c3 ⟨_, rfl, wd_400, wd_398, wd_39, wd_403, Nat.le_trans (by decide) hfr, Nat.le_trans (by decide) hlo⟩ ⟨_, rfl, wd_401, wd_398, wd_39, wd_403, Nat.le_trans (by decide) hfr, Nat.le_trans (by decide) hlo⟩ ⟨_, rfl, wd_402, wd_398, wd_39, wd_403, Nat.le_trans (by decide) hfr, Nat.le_trans (by decide) hlo⟩) yc_at hl.1 (by first | exact Nat.le_of_ble_eq_true rfl | simp [m_cat, m_ci, m_cl, m_cf, m_cd, m_cr]) rfl dX9_become_48 (fun c6 ws H locs cells slots hH hF => ?_)
    refine lv_i2f hx hb dX9_become_51 ?_
    refine lv_ldcf hx hb hown (hk.wd wd_655 args) dX9_become_52 ?_
    obtain ⟨hqr8, hF⟩ := ck_t hF
    refine lv_fmul hx hb dX9_become_54 hqr8 ?_
    refine lv_topf (fun r8 hr8 => ?_)
    have hF := rt_t hr8 hF
    refine m_sF hx hb hk hH hF dX9_become_55 (fun ws H locs hH hF => ?_)
    refine lv_iinc (v := (x3 + (1 : Int32))) (lv' := [(3, .int (x3 + (1 : Int32))), (0, .ref x0), (1, va_rf x1), (2, .int x2)]) hx hb dX9_become_56 hl (k := 3) rfl (by first | rfl | (congr 1)) (by decide) (by first | rfl | simp [m_cat, m_ci, m_cl, m_cf, m_cd, m_cr]) (fun ls hl => ?_)
    refine lv_goto (tgt := 28) hx hb dX9_become_59 (by decide) ?_
    exact hrec _ _ _ _ _ _ _ (lv_sub hl [1, 2, 3, 0] rfl) hH hF
theorem w_X9_become_28 {l : Launch} {D : va_G} {cy : Nat → ClassId} {z : Nat} {p : Program} {e : Env} {R : Room} {s : State} {m : MethodId} {args : Array Value} {below : List Frame} {meth : Method} {c : Code} {ws0 wsf : WS} {rr : Int32} (cx : Cx D cy z RX9 cX9_become 4 (some .int) 326 9921 "become" p R s m meth c) (hE : AC ws0 wsf R.cells R.slots) (x0 : Nat) (x1 : Option Nat) (x2 : Int32) (k : St (Int32)) (hkk : At_ l D cy z p e R s m args below meth c ws0 wsf vI rr 4 62 [(0, .ref x0)] [] (k)) : ∀ (n : Nat) (x3 : Int32), At_ l D cy z p e R s m args below meth c ws0 wsf vI rr 4 28 [(0, .ref x0), (1, va_rf x1), (2, .int x2), (3, .int x3)] [] (l_X9_become_28 x0 x1 x2 k n x3) := by
  intro n
  induction n with
  | zero =>
    intro x3 ws H locs cells slots ls hl hH hF
    exact fl_t hF
  | succ n ih =>
    intro x3
    exact wb_X9_become_28 cx hE x0 x1 x2 (l_X9_become_28 x0 x1 x2 k n) k ih hkk x3
set_option maxHeartbeats 4000000 in
set_option maxRecDepth 100000 in
theorem t_X9_become (l : Launch) (D : va_G) (cy : Nat → ClassId) (z : Nat) (o : Nat) (x1 : Option Nat) (x2 : Int32) : MT l D cy z yX9_become cX9_become 4 (some .int) 326 9921 (F_X9_become o x1 x2) vI [.ref o, va_rf x1, .int x2] := by
  refine m_enter [(0, .ref o), (1, va_rf x1), (2, .int x2)] (by decide) (by first | rfl | simp [lv_args, m_cat, m_ci, m_cl, m_cf, m_cd, m_cr]) (by first | exact Nat.le_of_ble_eq_true rfl | simp [lg_sl, m_cat, m_ci, m_cl, m_cf, m_cd, m_cr]) ?_
  intro p e R s m args below meth c ws0 wsf rr cx hE ws H locs cells slots ls hl hH hF
  obtain ⟨hx, hb, hr, hml, hown, hk, hz, hlocks, hnm, hfr, hlo⟩ := id cx
  unfold F_X9_become at hF
  refine lv_aload_n hx hb dX9_become_0 rfl (lv_at hl 0 rfl) ?_
  refine m_aload_n hx hb dX9_become_1 rfl (lv_at hl 1 rfl) ?_
  refine m_pV hx hb hown hk hH hF fk_RX9_curve lk_RX9_15 pd_12 (m_nrf _ _) (m_frf _ _) dX9_become_2 (fun ws H locs hH hF => ?_)
  refine lv_aload_n hx hb dX9_become_5 rfl (lv_at hl 0 rfl) ?_
  refine lv_iload_n hx hb dX9_become_6 rfl (lv_at hl 2 rfl) ?_
  refine m_pV hx hb hown hk hH hF fk_RX9_step lk_RX9_19 pd_9 rfl rfl dX9_become_7 (fun ws H locs hH hF => ?_)
  refine lv_aload_n hx hb dX9_become_10 rfl (lv_at hl 0 rfl) ?_
  refine lv_sipush (v := (4096)) hx hb dX9_become_11 (by decide) ?_
  refine lv_iload_n hx hb dX9_become_14 rfl (lv_at hl 2 rfl) ?_
  obtain ⟨hq0, hF⟩ := ck_t hF
  refine lv_idiv hx hb dX9_become_15 hq0 ?_
  refine lv_iconst (v := (1)) hx hb dX9_become_16 (by decide) ?_
  refine lv_iadd hx hb dX9_become_17 ?_
  refine m_pV hx hb hown hk hH hF fk_RX9_size lk_RX9_23 pd_9 rfl rfl dX9_become_18 (fun ws H locs hH hF => ?_)
  refine lv_aload_n hx hb dX9_become_21 rfl (lv_at hl 0 rfl) ?_
  refine lv_iconst (v := (-1)) hx hb dX9_become_22 (by decide) ?_
  refine m_pV hx hb hown hk hH hF fk_RX9_farthestAt lk_RX9_30 pd_9 rfl rfl dX9_become_23 (fun ws H locs hH hF => ?_)
  refine lv_iconst (v := (0)) hx hb dX9_become_26 (by decide) ?_
  refine lv_istore_n (lv' := [(3, .int (0 : Int32)), (0, .ref o), (1, va_rf x1), (2, .int x2)]) hx hb dX9_become_27 rfl hl (by decide) (by first | rfl | simp [m_cat, m_ci, m_cl, m_cf, m_cd, m_cr]) (fun ls hl => ?_)
  refine w_X9_become_28 cx hE o x1 x2 _ (fun ws H locs cells slots ls hl hH hF => ?_) _ _ _ _ _ _ _ _ (lv_sub hl [1, 2, 3, 0] rfl) hH hF
  refine lv_aload_n hx hb dX9_become_62 rfl (lv_at hl 0 rfl) ?_
  refine m_gI hx hb hown hk hH hF fk_RX9_size lk_RX9_23 dX9_become_63 (fun v9 hF => ?_)
  exact m_iret hx hb hr hlocks hH hE hF rfl dX9_become_66

def F_X9_has (o : Nat) (x1 : Int32) : St (Int32) :=
  br (x1 < 0) (rt (0 : Int32)) (bd (gI [8] 3 (some o)) fun v2 => br (v2 ≤ x1) (rt (0 : Int32)) (rt (1 : Int32)))
set_option maxHeartbeats 4000000 in
set_option maxRecDepth 100000 in
theorem t_X9_has (l : Launch) (D : va_G) (cy : Nat → ClassId) (z : Nat) (o : Nat) (x1 : Int32) : MT l D cy z yX9_has cX9_has 2 (some .boolean) 0 0 (F_X9_has o x1) vI [.ref o, .int x1] := by
  refine m_enter [(0, .ref o), (1, .int x1)] (by decide) (by first | rfl | simp [lv_args, m_cat, m_ci, m_cl, m_cf, m_cd, m_cr]) (by first | exact Nat.le_of_ble_eq_true rfl | simp [lg_sl, m_cat, m_ci, m_cl, m_cf, m_cd, m_cr]) ?_
  intro p e R s m args below meth c ws0 wsf rr cx hE ws H locs cells slots ls hl hH hF
  obtain ⟨hx, hb, hr, hml, hown, hk, hz, hlocks, hnm, hfr, hlo⟩ := id cx
  unfold F_X9_has at hF
  refine lv_iload_n hx hb dX9_has_0 rfl (lv_at hl 1 rfl) ?_
  refine lv_if_lt (tgt := 16) hx hb dX9_has_1 (by decide) (fun hc0 => ?_) (fun hc0 => ?_)
  · have hF := bq_t hc0 hF
    refine lv_iconst (v := (0)) hx hb dX9_has_16 (by decide) ?_
    exact m_iret hx hb hr hlocks hH hE hF rfl dX9_has_17
  · have hF := bq_f hc0 hF
    refine lv_iload_n hx hb dX9_has_4 rfl (lv_at hl 1 rfl) ?_
    refine lv_aload_n hx hb dX9_has_5 rfl (lv_at hl 0 rfl) ?_
    refine m_gI hx hb hown hk hH hF fk_RX9_size lk_RX9_23 dX9_has_6 (fun v2 hF => ?_)
    refine lv_icmp_ge (tgt := 16) hx hb dX9_has_9 (by decide) (fun hc2 => ?_) (fun hc2 => ?_)
    · have hF := bq_t hc2 hF
      refine lv_iconst (v := (0)) hx hb dX9_has_16 (by decide) ?_
      exact m_iret hx hb hr hlocks hH hE hF rfl dX9_has_17
    · have hF := bq_f hc2 hF
      refine lv_iconst (v := (1)) hx hb dX9_has_12 (by decide) ?_
      refine lv_goto (tgt := 17) hx hb dX9_has_13 (by decide) ?_
      exact m_iret hx hb hr hlocks hH hE hF rfl dX9_has_17

def F_X9_read (o : Nat) (x1 : Int32) : St (UInt32) :=
  bd (gI [8] 2 (some o)) fun v1 => bd (ck (¬ v1 = 0)) fun _ => bd (rt (x1 / v1)) fun v3 => bd (gI [8] 2 (some o)) fun v4 => bd (gI [8] 2 (some o)) fun v5 => bd (ck ((FP.fdiv (FP.i2f (x1 - (v3 * v4))) (FP.i2f v5)) &&& 0x7fffffff ≤ 0x7f800000)) fun _ => bd (rt (FP.fdiv (FP.i2f (x1 - (v3 * v4))) (FP.i2f v5))) fun r6 => bd (gR [8] 0 (some o)) fun v7 => bd (aF v7 v3) fun v8 => bd (gR [8] 0 (some o)) fun v9 => bd (aF v9 (v3 + (1 : Int32))) fun v10 => bd (gR [8] 0 (some o)) fun v11 => bd (aF v11 v3) fun v12 => bd (ck ((FP.fsub v10 v12) &&& 0x7fffffff ≤ 0x7f800000)) fun _ => bd (rt (FP.fsub v10 v12)) fun r13 => bd (ck ((FP.fmul r13 r6) &&& 0x7fffffff ≤ 0x7f800000)) fun _ => bd (rt (FP.fmul r13 r6)) fun r14 => bd (ck ((FP.fadd v8 r14) &&& 0x7fffffff ≤ 0x7f800000)) fun _ => bd (rt (FP.fadd v8 r14)) fun r15 => rt r15
set_option maxHeartbeats 4000000 in
set_option maxRecDepth 100000 in
theorem t_X9_read (l : Launch) (D : va_G) (cy : Nat → ClassId) (z : Nat) (o : Nat) (x1 : Int32) : MT l D cy z yX9_read cX9_read 4 (some .float) 0 0 (F_X9_read o x1) vF [.ref o, .int x1] := by
  refine m_enter [(0, .ref o), (1, .int x1)] (by decide) (by first | rfl | simp [lv_args, m_cat, m_ci, m_cl, m_cf, m_cd, m_cr]) (by first | exact Nat.le_of_ble_eq_true rfl | simp [lg_sl, m_cat, m_ci, m_cl, m_cf, m_cd, m_cr]) ?_
  intro p e R s m args below meth c ws0 wsf rr cx hE ws H locs cells slots ls hl hH hF
  obtain ⟨hx, hb, hr, hml, hown, hk, hz, hlocks, hnm, hfr, hlo⟩ := id cx
  unfold F_X9_read at hF
  refine lv_iload_n hx hb dX9_read_0 rfl (lv_at hl 1 rfl) ?_
  refine lv_aload_n hx hb dX9_read_1 rfl (lv_at hl 0 rfl) ?_
  refine m_gI hx hb hown hk hH hF fk_RX9_step lk_RX9_19 dX9_read_2 (fun v1 hF => ?_)
  obtain ⟨hq1, hF⟩ := ck_t hF
  refine lv_idiv hx hb dX9_read_5 hq1 ?_
  refine lv_topi (fun v3 hv3 => ?_)
  have hF := rt_t hv3 hF
  refine lv_istore_n (lv' := [(2, .int v3), (0, .ref o), (1, .int x1)]) hx hb dX9_read_6 rfl hl (by decide) (by first | rfl | simp [m_cat, m_ci, m_cl, m_cf, m_cd, m_cr]) (fun ls hl => ?_)
  refine lv_iload_n hx hb dX9_read_7 rfl (lv_at hl 2 rfl) ?_
  refine lv_iload_n hx hb dX9_read_8 rfl (lv_at hl 0 rfl) ?_
  refine lv_aload_n hx hb dX9_read_9 rfl (lv_at hl 1 rfl) ?_
  refine m_gI hx hb hown hk hH hF fk_RX9_step lk_RX9_19 dX9_read_10 (fun v4 hF => ?_)
  refine lv_imul hx hb dX9_read_13 ?_
  refine lv_isub hx hb dX9_read_14 ?_
  refine lv_i2f hx hb dX9_read_15 ?_
  refine lv_aload_n hx hb dX9_read_16 rfl (lv_at hl 1 rfl) ?_
  refine m_gI hx hb hown hk hH hF fk_RX9_step lk_RX9_19 dX9_read_17 (fun v5 hF => ?_)
  refine lv_i2f hx hb dX9_read_20 ?_
  obtain ⟨hqr6, hF⟩ := ck_t hF
  refine lv_fdiv hx hb dX9_read_21 hqr6 ?_
  refine lv_topf (fun r6 hr6 => ?_)
  have hF := rt_t hr6 hF
  refine lv_fstore_n (lv' := [(3, .float r6), (2, .int v3), (0, .ref o), (1, .int x1)]) hx hb dX9_read_22 rfl hl (by decide) (by first | rfl | simp [m_cat, m_ci, m_cl, m_cf, m_cd, m_cr]) (fun ls hl => ?_)
  refine lv_aload_n hx hb dX9_read_23 rfl (lv_at hl 2 rfl) ?_
  refine m_gR hx hb hown hk hH hF fk_RX9_entries lk_RX9_9 dX9_read_24 (fun v7 hF => ?_)
  refine lv_iload_n hx hb dX9_read_27 rfl (lv_at hl 1 rfl) ?_
  refine m_aF hx hb hk hH hF dX9_read_28 (fun v8 hF => ?_)
  refine lv_aload_n hx hb dX9_read_29 rfl (lv_at hl 2 rfl) ?_
  refine m_gR hx hb hown hk hH hF fk_RX9_entries lk_RX9_9 dX9_read_30 (fun v9 hF => ?_)
  refine lv_iload_n hx hb dX9_read_33 rfl (lv_at hl 1 rfl) ?_
  refine lv_iconst (v := (1)) hx hb dX9_read_34 (by decide) ?_
  refine lv_iadd hx hb dX9_read_35 ?_
  refine m_aF hx hb hk hH hF dX9_read_36 (fun v10 hF => ?_)
  refine lv_aload_n hx hb dX9_read_37 rfl (lv_at hl 2 rfl) ?_
  refine m_gR hx hb hown hk hH hF fk_RX9_entries lk_RX9_9 dX9_read_38 (fun v11 hF => ?_)
  refine lv_iload_n hx hb dX9_read_41 rfl (lv_at hl 1 rfl) ?_
  refine m_aF hx hb hk hH hF dX9_read_42 (fun v12 hF => ?_)
  obtain ⟨hqr13, hF⟩ := ck_t hF
  refine lv_fsub hx hb dX9_read_43 hqr13 ?_
  refine lv_topf (fun r13 hr13 => ?_)
  have hF := rt_t hr13 hF
  refine lv_fload_n hx hb dX9_read_44 rfl (lv_at hl 0 rfl) ?_
  obtain ⟨hqr14, hF⟩ := ck_t hF
  refine lv_fmul hx hb dX9_read_45 hqr14 ?_
  refine lv_topf (fun r14 hr14 => ?_)
  have hF := rt_t hr14 hF
  obtain ⟨hqr15, hF⟩ := ck_t hF
  refine lv_fadd hx hb dX9_read_46 hqr15 ?_
  refine lv_topf (fun r15 hr15 => ?_)
  have hF := rt_t hr15 hF
  exact m_fret hx hb hr hlocks hH hE hF dX9_read_47

def j_X9_measure_91 (rec : Int32 → St (Unit)) (k : St (Unit)) (x0 : Nat) (x1 : Option Nat) (x2 : Int32) : St (Unit) :=
  rec (x2 + (1 : Int32))
def j_X9_measure_68 (rec : Int32 → St (Unit)) (k : St (Unit)) (x0 : Nat) (x1 : Option Nat) (x2 : Int32) (s0 : UInt64) : St (Unit) :=
  bd (gD [8] 4 (some x0)) fun v16 => br ((Op.cmpValue (FP.dcmp s0 v16) CmpOp.l) ≤ 0) (j_X9_measure_91 rec k x0 x1 x2) (bd (pV [8] 4 (some x0) (.double s0)) fun _ => bd (pV [8] 5 (some x0) (.int x2)) fun _ => j_X9_measure_91 rec k x0 x1 x2)
def b_X9_measure_33 (x0 : Nat) (x1 : Option Nat) (rec : Int32 → St (Unit)) (k : St (Unit)) (x2 : Int32) : St (Unit) :=
  br ((4096 : Int32) ≤ x2) (k) (bd (dr [8] (some x0)) fun q10 => bd (F_X9_read q10.1 x2) fun c9 => bd (ck ((FP.f2d c9) &&& 0x7fffffffffffffff ≤ 0x7ff0000000000000)) fun _ => bd (rt (FP.f2d c9)) fun r11 => bd (aI 0 x1 x2) fun v12 => bd (ck ((FP.dmul (FP.i2d v12) (4562254508917369340 : UInt64)) &&& 0x7fffffffffffffff ≤ 0x7ff0000000000000)) fun _ => bd (rt (FP.dmul (FP.i2d v12) (4562254508917369340 : UInt64))) fun r13 => bd (ck ((FP.dsub r11 r13) &&& 0x7fffffffffffffff ≤ 0x7ff0000000000000)) fun _ => bd (rt (FP.dsub r11 r13)) fun r14 => br (0 ≤ (Op.cmpValue (FP.dcmp r14 FP.dconst0) CmpOp.g)) (j_X9_measure_68 rec k x0 x1 x2 r14) (j_X9_measure_68 rec k x0 x1 x2 (FP.dneg r14)))
def l_X9_measure_33 (x0 : Nat) (x1 : Option Nat) (k : St (Unit)) : Nat → Int32 → St (Unit)
  | 0 => fun _ => fl
  | n + 1 => fun x2 => b_X9_measure_33 x0 x1 (l_X9_measure_33 x0 x1 k n) k x2
def F_X9_measure (o : Nat) : St (Unit) :=
  bd (gI [8] 5 (some o)) fun v1 => br (v1 = (-1 : Int32)) (bd (gR [8] 1 (some o)) fun v3 => br (v3 = none) (rt ()) (bd (gR [8] 1 (some o)) fun v5 => bd (dr [3, 4, 6] v5) fun q7 => bd (F_X1_filled 64 q7.1) fun c6 => bd (pV [8] 4 (some o) (.double (13830554455654793216 : UInt64))) fun _ => l_X9_measure_33 o c6 (rt ()) FU (0 : Int32))) (rt ())
set_option maxHeartbeats 4000000 in
set_option maxRecDepth 100000 in
theorem w_X9_measure_91 {l : Launch} {D : va_G} {cy : Nat → ClassId} {z : Nat} {p : Program} {e : Env} {R : Room} {s : State} {m : MethodId} {args : Array Value} {below : List Frame} {meth : Method} {c : Code} {ws0 wsf : WS} {rr : Unit} (cx : Cx D cy z RX9 cX9_measure 7 none 785 23822 "measure" p R s m meth c) (hE : AC ws0 wsf R.cells R.slots) (rec : Int32 → St (Unit)) (k : St (Unit)) (x0 : Nat) (x1 : Option Nat) (hrec : ∀ (x2 : Int32), At_ l D cy z p e R s m args below meth c ws0 wsf vU rr 7 33 [(0, .ref x0), (1, va_rf x1), (2, .int x2)] [] (rec x2)) (hkk : At_ l D cy z p e R s m args below meth c ws0 wsf vU rr 7 97 [] [] (k)) (x2 : Int32) : At_ l D cy z p e R s m args below meth c ws0 wsf vU rr 7 91 [(0, .ref x0), (1, va_rf x1), (2, .int x2)] [] (j_X9_measure_91 rec k x0 x1 x2) := by
  intro ws H locs cells slots ls hl hH hF
  obtain ⟨hx, hb, hr, hml, hown, hk, hz, hlocks, hnm, hfr, hlo⟩ := id cx
  unfold j_X9_measure_91 at hF
  refine lv_iinc (v := (x2 + (1 : Int32))) (lv' := [(2, .int (x2 + (1 : Int32))), (0, .ref x0), (1, va_rf x1)]) hx hb dX9_measure_91 hl (k := 2) rfl (by first | rfl | (congr 1)) (by decide) (by first | rfl | simp [m_cat, m_ci, m_cl, m_cf, m_cd, m_cr]) (fun ls hl => ?_)
  refine lv_goto (tgt := 33) hx hb dX9_measure_94 (by decide) ?_
  exact hrec _ _ _ _ _ _ _ (lv_sub hl [1, 2, 0] rfl) hH hF
set_option maxHeartbeats 4000000 in
set_option maxRecDepth 100000 in
theorem w_X9_measure_68 {l : Launch} {D : va_G} {cy : Nat → ClassId} {z : Nat} {p : Program} {e : Env} {R : Room} {s : State} {m : MethodId} {args : Array Value} {below : List Frame} {meth : Method} {c : Code} {ws0 wsf : WS} {rr : Unit} (cx : Cx D cy z RX9 cX9_measure 7 none 785 23822 "measure" p R s m meth c) (hE : AC ws0 wsf R.cells R.slots) (rec : Int32 → St (Unit)) (k : St (Unit)) (x0 : Nat) (x1 : Option Nat) (hrec : ∀ (x2 : Int32), At_ l D cy z p e R s m args below meth c ws0 wsf vU rr 7 33 [(0, .ref x0), (1, va_rf x1), (2, .int x2)] [] (rec x2)) (hkk : At_ l D cy z p e R s m args below meth c ws0 wsf vU rr 7 97 [] [] (k)) (x2 : Int32) (s0 : UInt64) : At_ l D cy z p e R s m args below meth c ws0 wsf vU rr 7 68 [(0, .ref x0), (1, va_rf x1), (2, .int x2)] [.double s0] (j_X9_measure_68 rec k x0 x1 x2 s0) := by
  intro ws H locs cells slots ls hl hH hF
  obtain ⟨hx, hb, hr, hml, hown, hk, hz, hlocks, hnm, hfr, hlo⟩ := id cx
  unfold j_X9_measure_68 at hF
  refine lv_dstore (lv' := [(5, .double s0), (0, .ref x0), (1, va_rf x1), (2, .int x2)]) hx hb dX9_measure_68 hl (by decide) (by first | rfl | simp [m_cat, m_ci, m_cl, m_cf, m_cd, m_cr]) (fun ls hl => ?_)
  refine lv_dload hx hb dX9_measure_70 (lv_at hl 0 rfl) ?_
  refine lv_aload_n hx hb dX9_measure_72 rfl (lv_at hl 1 rfl) ?_
  refine m_gD hx hb hown hk hH hF fk_RX9_farthest lk_RX9_26 dX9_measure_73 (fun v16 hF => ?_)
  refine lv_dcmp hx hb dX9_measure_76 ?_
  refine lv_if_le (tgt := 91) hx hb dX9_measure_77 (by decide) (fun hc16 => ?_) (fun hc16 => ?_)
  · have hF := bq_t hc16 hF
    exact w_X9_measure_91 cx hE _ _ x0 x1 hrec hkk x2 _ _ _ _ _ _ (lv_sub hl [1, 2, 3] rfl) hH hF
  · have hF := bq_f hc16 hF
    refine lv_aload_n hx hb dX9_measure_80 rfl (lv_at hl 1 rfl) ?_
    refine lv_dload hx hb dX9_measure_81 (lv_at hl 0 rfl) ?_
    refine m_pV hx hb hown hk hH hF fk_RX9_farthest lk_RX9_26 pd_13 rfl rfl dX9_measure_83 (fun ws H locs hH hF => ?_)
    refine lv_aload_n hx hb dX9_measure_86 rfl (lv_at hl 1 rfl) ?_
    refine lv_iload_n hx hb dX9_measure_87 rfl (lv_at hl 3 rfl) ?_
    refine m_pV hx hb hown hk hH hF fk_RX9_farthestAt lk_RX9_30 pd_9 rfl rfl dX9_measure_88 (fun ws H locs hH hF => ?_)
    exact w_X9_measure_91 cx hE _ _ x0 x1 hrec hkk x2 _ _ _ _ _ _ (lv_sub hl [1, 2, 3] rfl) hH hF
set_option maxHeartbeats 4000000 in
set_option maxRecDepth 100000 in
theorem wb_X9_measure_33 {l : Launch} {D : va_G} {cy : Nat → ClassId} {z : Nat} {p : Program} {e : Env} {R : Room} {s : State} {m : MethodId} {args : Array Value} {below : List Frame} {meth : Method} {c : Code} {ws0 wsf : WS} {rr : Unit} (cx : Cx D cy z RX9 cX9_measure 7 none 785 23822 "measure" p R s m meth c) (hE : AC ws0 wsf R.cells R.slots) (x0 : Nat) (x1 : Option Nat) (rec : Int32 → St (Unit)) (k : St (Unit)) (hrec : ∀ (x2 : Int32), At_ l D cy z p e R s m args below meth c ws0 wsf vU rr 7 33 [(0, .ref x0), (1, va_rf x1), (2, .int x2)] [] (rec x2)) (hkk : At_ l D cy z p e R s m args below meth c ws0 wsf vU rr 7 97 [] [] (k)) (x2 : Int32) : At_ l D cy z p e R s m args below meth c ws0 wsf vU rr 7 33 [(0, .ref x0), (1, va_rf x1), (2, .int x2)] [] (b_X9_measure_33 x0 x1 rec k x2) := by
  intro ws H locs cells slots ls hl hH hF
  obtain ⟨hx, hb, hr, hml, hown, hk, hz, hlocks, hnm, hfr, hlo⟩ := id cx
  unfold b_X9_measure_33 at hF
  refine lv_iload_n hx hb dX9_measure_33 rfl (lv_at hl 2 rfl) ?_
  refine lv_sipush (v := (4096)) hx hb dX9_measure_34 (by decide) ?_
  refine lv_icmp_ge (tgt := 97) hx hb dX9_measure_37 (by decide) (fun hc7 => ?_) (fun hc7 => ?_)
  · have hF := bq_t hc7 hF
    exact hkk _ _ _ _ _ _ (lv_sub hl [] rfl) hH hF
  · have hF := bq_f hc7 hF
    refine lv_aload_n hx hb dX9_measure_40 rfl (lv_at hl 0 rfl) ?_
    refine lv_iload_n hx hb dX9_measure_41 rfl (lv_at hl 2 rfl) ?_
    refine m_cVF hx hb hml hown hk hH hE.le hz (F := fun q10 => F_X9_read q10.1 x2) (C := RX9) (T := TX9) (N := 6) rfl (As := [.int x2]) (rest := []) (fun o => t_X9_read l D cy z o x2) hF wd_687 wd_674 wd_45 wd_676 wd_675 yn_X9_read ⟨Nat.le_trans (by decide) hfr, Nat.le_trans (by decide) hlo⟩ hl.1 (by first | exact Nat.le_of_ble_eq_true rfl | simp [m_cat, m_ci, m_cl, m_cf, m_cd, m_cr]) rfl dX9_measure_42 (fun c9 ws H locs cells slots hH hF => ?_)
    obtain ⟨hqr11, hF⟩ := ck_t hF
    refine lv_f2d hx hb dX9_measure_45 hqr11 ?_
    refine lv_topd (fun r11 hr11 => ?_)
    have hF := rt_t hr11 hF
    refine m_aload_n hx hb dX9_measure_46 rfl (lv_at hl 1 rfl) ?_
    refine lv_iload_n hx hb dX9_measure_47 rfl (lv_at hl 2 rfl) ?_
    refine m_aI0 hx hb hk hH hF dX9_measure_48 (fun v12 hF => ?_)
    refine lv_i2d hx hb dX9_measure_49 ?_
    refine lv_ldc2d hx hb hown (hk.wd wd_688 args) dX9_measure_50 ?_
    obtain ⟨hqr13, hF⟩ := ck_t hF
    refine lv_dmul hx hb dX9_measure_53 hqr13 ?_
    refine lv_topd (fun r13 hr13 => ?_)
    have hF := rt_t hr13 hF
    obtain ⟨hqr14, hF⟩ := ck_t hF
    refine lv_dsub hx hb dX9_measure_54 hqr14 ?_
    refine lv_topd (fun r14 hr14 => ?_)
    have hF := rt_t hr14 hF
    refine lv_dstore_n (lv' := [(3, .double r14), (0, .ref x0), (1, va_rf x1), (2, .int x2)]) hx hb dX9_measure_55 rfl hl (by decide) (by first | rfl | simp [m_cat, m_ci, m_cl, m_cf, m_cd, m_cr]) (fun ls hl => ?_)
    refine lv_dload_n hx hb dX9_measure_56 rfl (lv_at hl 0 rfl) ?_
    refine lv_dconst0 hx hb dX9_measure_57 ?_
    refine lv_dcmp hx hb dX9_measure_58 ?_
    refine lv_if_ge (tgt := 67) hx hb dX9_measure_59 (by decide) (fun hc14 => ?_) (fun hc14 => ?_)
    · have hF := bq_t hc14 hF
      refine lv_dload_n hx hb dX9_measure_67 rfl (lv_at hl 0 rfl) ?_
      exact w_X9_measure_68 cx hE _ _ x0 x1 hrec hkk x2 r14 _ _ _ _ _ _ (lv_sub hl [1, 2, 3] rfl) hH hF
    · have hF := bq_f hc14 hF
      refine lv_dload_n hx hb dX9_measure_62 rfl (lv_at hl 0 rfl) ?_
      refine lv_dneg hx hb dX9_measure_63 ?_
      refine lv_goto (tgt := 68) hx hb dX9_measure_64 (by decide) ?_
      exact w_X9_measure_68 cx hE _ _ x0 x1 hrec hkk x2 (FP.dneg r14) _ _ _ _ _ _ (lv_sub hl [1, 2, 3] rfl) hH hF
theorem w_X9_measure_33 {l : Launch} {D : va_G} {cy : Nat → ClassId} {z : Nat} {p : Program} {e : Env} {R : Room} {s : State} {m : MethodId} {args : Array Value} {below : List Frame} {meth : Method} {c : Code} {ws0 wsf : WS} {rr : Unit} (cx : Cx D cy z RX9 cX9_measure 7 none 785 23822 "measure" p R s m meth c) (hE : AC ws0 wsf R.cells R.slots) (x0 : Nat) (x1 : Option Nat) (k : St (Unit)) (hkk : At_ l D cy z p e R s m args below meth c ws0 wsf vU rr 7 97 [] [] (k)) : ∀ (n : Nat) (x2 : Int32), At_ l D cy z p e R s m args below meth c ws0 wsf vU rr 7 33 [(0, .ref x0), (1, va_rf x1), (2, .int x2)] [] (l_X9_measure_33 x0 x1 k n x2) := by
  intro n
  induction n with
  | zero =>
    intro x2 ws H locs cells slots ls hl hH hF
    exact fl_t hF
  | succ n ih =>
    intro x2
    exact wb_X9_measure_33 cx hE x0 x1 (l_X9_measure_33 x0 x1 k n) k ih hkk x2
set_option maxHeartbeats 4000000 in
set_option maxRecDepth 100000 in
theorem t_X9_measure (l : Launch) (D : va_G) (cy : Nat → ClassId) (z : Nat) (o : Nat) : MT l D cy z yX9_measure cX9_measure 7 none 785 23822 (F_X9_measure o) vU [.ref o] := by
  refine m_enter [(0, .ref o)] (by decide) (by first | rfl | simp [lv_args, m_cat, m_ci, m_cl, m_cf, m_cd, m_cr]) (by first | exact Nat.le_of_ble_eq_true rfl | simp [lg_sl, m_cat, m_ci, m_cl, m_cf, m_cd, m_cr]) ?_
  intro p e R s m args below meth c ws0 wsf rr cx hE ws H locs cells slots ls hl hH hF
  obtain ⟨hx, hb, hr, hml, hown, hk, hz, hlocks, hnm, hfr, hlo⟩ := id cx
  unfold F_X9_measure at hF
  refine lv_aload_n hx hb dX9_measure_0 rfl (lv_at hl 0 rfl) ?_
  refine m_gI hx hb hown hk hH hF fk_RX9_farthestAt lk_RX9_30 dX9_measure_1 (fun v1 hF => ?_)
  refine lv_iconst (v := (-1)) hx hb dX9_measure_4 (by decide) ?_
  refine lv_icmp_ne (tgt := 15) hx hb dX9_measure_5 (by decide) (fun hc1 => ?_) (fun hc1 => ?_)
  · have hF := bq_f hc1 hF
    exact m_vret hx hb hr hlocks hH hE hF dX9_measure_15
  · have hF := bq_t hc1 hF
    refine lv_aload_n hx hb dX9_measure_8 rfl (lv_at hl 0 rfl) ?_
    refine m_gR hx hb hown hk hH hF fk_RX9_curve lk_RX9_15 dX9_measure_9 (fun v3 hF => ?_)
    refine m_ifnonnull (tgt := 16) hx hb dX9_measure_12 (by decide) (fun hc3 => ?_) (fun hc3 => ?_)
    · have hF := bq_f hc3 hF
      refine lv_aload_n hx hb dX9_measure_16 rfl (lv_at hl 0 rfl) ?_
      refine m_gR hx hb hown hk hH hF fk_RX9_curve lk_RX9_15 dX9_measure_17 (fun v5 hF => ?_)
      refine m_cUR hx hb hml hown hk hH hE.le hz (x := yX1_filled) (owner := "CurveFoundry$Curve") (y := (fun _ => yX1_filled)) (bytes := (fun _ => cX1_filled)) (maxL := (fun _ => 3)) (fr := (fun _ => 784)) (lo := (fun _ => 23800)) (F := fun q7 => F_X1_filled 64 q7.1) (As := []) (rest := []) (fun o => m_c3 (t_X1_filled l D cy z 64 o) (t_X1_filled l D cy z 64 o) (t_X1_filled l D cy z 64 o)) hF wd_685 wd_466 (va_Decl.of (hk.wd wd_465 args) (hk.wd wd_470 args)) (m_c3 ⟨_, rfl, wd_467, wd_465, wd_39, wd_470, Nat.le_trans (by decide) hfr, Nat.le_trans (by decide) hlo⟩ ⟨_, rfl, wd_468, wd_465, wd_39, wd_470, Nat.le_trans (by decide) hfr, Nat.le_trans (by decide) hlo⟩ ⟨_, rfl, wd_469, wd_465, wd_39, wd_470, Nat.le_trans (by decide) hfr, Nat.le_trans (by decide) hlo⟩) yc_filled hl.1 (by first | exact Nat.le_of_ble_eq_true rfl | simp [m_cat, m_ci, m_cl, m_cf, m_cd, m_cr]) rfl dX9_measure_20 (fun c6 ws H locs cells slots hH hF => ?_)
      refine m_astore_n (lv' := [(1, va_rf c6), (0, .ref o)]) hx hb dX9_measure_23 rfl hl (by decide) (by first | rfl | simp [m_cat, m_ci, m_cl, m_cf, m_cd, m_cr]) (fun ls hl => ?_)
      refine lv_aload_n hx hb dX9_measure_24 rfl (lv_at hl 1 rfl) ?_
      refine lv_ldc2d hx hb hown (hk.wd wd_686 args) dX9_measure_25 ?_
      refine m_pV hx hb hown hk hH hF fk_RX9_farthest lk_RX9_26 pd_13 rfl rfl dX9_measure_28 (fun ws H locs hH hF => ?_)
      refine lv_iconst (v := (0)) hx hb dX9_measure_31 (by decide) ?_
      refine lv_istore_n (lv' := [(2, .int (0 : Int32)), (1, va_rf c6), (0, .ref o)]) hx hb dX9_measure_32 rfl hl (by decide) (by first | rfl | simp [m_cat, m_ci, m_cl, m_cf, m_cd, m_cr]) (fun ls hl => ?_)
      refine w_X9_measure_33 cx hE o c6 _ (fun ws H locs cells slots ls hl hH hF => ?_) _ _ _ _ _ _ _ _ (lv_sub hl [2, 1, 0] rfl) hH hF
      exact m_vret hx hb hr hlocks hH hE hF dX9_measure_97
    · have hF := bq_t hc3 hF
      exact m_vret hx hb hr hlocks hH hE hF dX9_measure_15

def b_X10_init_67 (x0 : Nat) (rec : Int32 → St (Unit)) (k : St (Unit)) (x1 : Int32) : St (Unit) :=
  br ((8 : Int32) ≤ x1) (k) (bd (gR [9] 0 (some x0)) fun v10 => bd (mk 4 (.inr (7, [.null, .null, .null, .int 0]))) fun a11 => bd (F_X8_init a11) fun c12 => bd (dr [7] (some a11)) fun _ => bd (sR 8 v10 x1 (some a11)) fun _ => rec (x1 + (1 : Int32)))
def l_X10_init_67 (x0 : Nat) (k : St (Unit)) : Nat → Int32 → St (Unit)
  | 0 => fun _ => fl
  | n + 1 => fun x1 => b_X10_init_67 x0 (l_X10_init_67 x0 k n) k x1
def b_X10_init_94 (x0 : Nat) (rec : Int32 → St (Unit)) (k : St (Unit)) (x1 : Int32) : St (Unit) :=
  br ((4 : Int32) ≤ x1) (k) (bd (gR [9] 2 (some x0)) fun v14 => bd (mk 7 (.inr (5, [.null, .null, .null, .int 0, .int 0, .int 0, .int 0]))) fun a15 => bd (F_X6_init a15) fun c16 => bd (dr [5] (some a15)) fun _ => bd (sR 10 v14 x1 (some a15)) fun _ => rec (x1 + (1 : Int32)))
def l_X10_init_94 (x0 : Nat) (k : St (Unit)) : Nat → Int32 → St (Unit)
  | 0 => fun _ => fl
  | n + 1 => fun x1 => b_X10_init_94 x0 (l_X10_init_94 x0 k n) k x1
def F_X10_init (o : Nat) : St (Unit) :=
  bd (nA 8 (8 : Int32)) fun a1 => bd (pV [9] 0 (some o) (va_rf (some a1))) fun _ => bd (nA 9 (60 : Int32)) fun a2 => bd (pV [9] 1 (some o) (va_rf (some a2))) fun _ => bd (nA 10 (4 : Int32)) fun a3 => bd (pV [9] 2 (some o) (va_rf (some a3))) fun _ => bd (nA 11 (4 : Int32)) fun a4 => bd (pV [9] 3 (some o) (va_rf (some a4))) fun _ => bd (mk 9 (.inr (0, [.null, .null, .null, .null, .null, .null, .null, .null, .null]))) fun a5 => bd (F_X0_init a5) fun c6 => bd (pV [9] 4 (some o) (va_rf (some a5))) fun _ => bd (mk 3 (.inr (2, [.null, .null, .int 0]))) fun a7 => bd (F_X3_init a7) fun c8 => bd (pV [9] 5 (some o) (va_rf (some a7))) fun _ => bd (pV [9] 6 (some o) (.int (0 : Int32))) fun _ => l_X10_init_67 o (l_X10_init_94 o (rt ()) FU (0 : Int32)) FU (0 : Int32)
set_option maxHeartbeats 4000000 in
set_option maxRecDepth 100000 in
theorem wb_X10_init_67 {l : Launch} {D : va_G} {cy : Nat → ClassId} {z : Nat} {p : Program} {e : Env} {R : Room} {s : State} {m : MethodId} {args : Array Value} {below : List Frame} {meth : Method} {c : Code} {ws0 wsf : WS} {rr : Unit} (cx : Cx D cy z RX10 cX10_init 2 none 2 61 "<init>" p R s m meth c) (hE : AC ws0 wsf R.cells R.slots) (x0 : Nat) (rec : Int32 → St (Unit)) (k : St (Unit)) (hrec : ∀ (x1 : Int32), At_ l D cy z p e R s m args below meth c ws0 wsf vU rr 2 67 [(0, .ref x0), (1, .int x1)] [] (rec x1)) (hkk : At_ l D cy z p e R s m args below meth c ws0 wsf vU rr 2 92 [(0, .ref x0)] [] (k)) (x1 : Int32) : At_ l D cy z p e R s m args below meth c ws0 wsf vU rr 2 67 [(0, .ref x0), (1, .int x1)] [] (b_X10_init_67 x0 rec k x1) := by
  intro ws H locs cells slots ls hl hH hF
  obtain ⟨hx, hb, hr, hml, hown, hk, hz, hlocks, hnm, hfr, hlo⟩ := id cx
  unfold b_X10_init_67 at hF
  refine lv_iload_n hx hb dX10_init_67 rfl (lv_at hl 1 rfl) ?_
  refine lv_bipush (v := (8)) hx hb dX10_init_68 (by decide) ?_
  refine lv_icmp_ge (tgt := 92) hx hb dX10_init_70 (by decide) (fun hc8 => ?_) (fun hc8 => ?_)
  · have hF := bq_t hc8 hF
    exact hkk _ _ _ _ _ _ (lv_sub hl [0] rfl) hH hF
  · have hF := bq_f hc8 hF
    refine lv_aload_n hx hb dX10_init_73 rfl (lv_at hl 0 rfl) ?_
    refine m_gR hx hb hown hk hH hF fk_RX10_sensors lk_RX10_11 dX10_init_74 (fun v10 hF => ?_)
    refine lv_iload_n hx hb dX10_init_77 rfl (lv_at hl 1 rfl) ?_
    refine m_new hx hb hown hk hH hE.le hz hF rfl nf_RX8 wd_54 wd_121 wd_36 dX10_init_78 (fun a11 ws H hH hF => ?_)
    refine lv_dup hx hb dX10_init_81 rfl ?_
    refine m_cIN hx hb hml hown hk hH hE.le hz (b := a11) (As := []) (rest := [.ref a11, .int x1, va_rf v10]) (t_X8_init l D cy z a11) hF ⟨_, wd_122⟩ wd_123 wd_36 wd_124 yn_X8_init rfl ⟨Nat.le_trans (by decide) hfr, Nat.le_trans (by decide) hlo⟩ hl.1 (by first | exact Nat.le_of_ble_eq_true rfl | simp [m_cat, m_ci, m_cl, m_cf, m_cd, m_cr]) rfl dX10_init_82 (fun c12 ws H locs cells slots hH hF => ?_)
    refine m_sR (t := 8) hx hb hk hH ⟨by decide, rfl⟩ (m_c1 ⟨_, rfl, Or.inl rfl⟩) hF dX10_init_85 (fun ws H locs hH hF => ?_)
    refine lv_iinc (v := (x1 + (1 : Int32))) (lv' := [(1, .int (x1 + (1 : Int32))), (0, .ref x0)]) hx hb dX10_init_86 hl (k := 1) rfl (by first | rfl | (congr 1)) (by decide) (by first | rfl | simp [m_cat, m_ci, m_cl, m_cf, m_cd, m_cr]) (fun ls hl => ?_)
    refine lv_goto (tgt := 67) hx hb dX10_init_89 (by decide) ?_
    exact hrec _ _ _ _ _ _ _ (lv_sub hl [1, 0] rfl) hH hF
theorem w_X10_init_67 {l : Launch} {D : va_G} {cy : Nat → ClassId} {z : Nat} {p : Program} {e : Env} {R : Room} {s : State} {m : MethodId} {args : Array Value} {below : List Frame} {meth : Method} {c : Code} {ws0 wsf : WS} {rr : Unit} (cx : Cx D cy z RX10 cX10_init 2 none 2 61 "<init>" p R s m meth c) (hE : AC ws0 wsf R.cells R.slots) (x0 : Nat) (k : St (Unit)) (hkk : At_ l D cy z p e R s m args below meth c ws0 wsf vU rr 2 92 [(0, .ref x0)] [] (k)) : ∀ (n : Nat) (x1 : Int32), At_ l D cy z p e R s m args below meth c ws0 wsf vU rr 2 67 [(0, .ref x0), (1, .int x1)] [] (l_X10_init_67 x0 k n x1) := by
  intro n
  induction n with
  | zero =>
    intro x1 ws H locs cells slots ls hl hH hF
    exact fl_t hF
  | succ n ih =>
    intro x1
    exact wb_X10_init_67 cx hE x0 (l_X10_init_67 x0 k n) k ih hkk x1
set_option maxHeartbeats 4000000 in
set_option maxRecDepth 100000 in
theorem wb_X10_init_94 {l : Launch} {D : va_G} {cy : Nat → ClassId} {z : Nat} {p : Program} {e : Env} {R : Room} {s : State} {m : MethodId} {args : Array Value} {below : List Frame} {meth : Method} {c : Code} {ws0 wsf : WS} {rr : Unit} (cx : Cx D cy z RX10 cX10_init 2 none 2 61 "<init>" p R s m meth c) (hE : AC ws0 wsf R.cells R.slots) (x0 : Nat) (rec : Int32 → St (Unit)) (k : St (Unit)) (hrec : ∀ (x1 : Int32), At_ l D cy z p e R s m args below meth c ws0 wsf vU rr 2 94 [(0, .ref x0), (1, .int x1)] [] (rec x1)) (hkk : At_ l D cy z p e R s m args below meth c ws0 wsf vU rr 2 118 [] [] (k)) (x1 : Int32) : At_ l D cy z p e R s m args below meth c ws0 wsf vU rr 2 94 [(0, .ref x0), (1, .int x1)] [] (b_X10_init_94 x0 rec k x1) := by
  intro ws H locs cells slots ls hl hH hF
  obtain ⟨hx, hb, hr, hml, hown, hk, hz, hlocks, hnm, hfr, hlo⟩ := id cx
  unfold b_X10_init_94 at hF
  refine lv_iload_n hx hb dX10_init_94 rfl (lv_at hl 1 rfl) ?_
  refine lv_iconst (v := (4)) hx hb dX10_init_95 (by decide) ?_
  refine lv_icmp_ge (tgt := 118) hx hb dX10_init_96 (by decide) (fun hc12 => ?_) (fun hc12 => ?_)
  · have hF := bq_t hc12 hF
    exact hkk _ _ _ _ _ _ (lv_sub hl [] rfl) hH hF
  · have hF := bq_f hc12 hF
    refine lv_aload_n hx hb dX10_init_99 rfl (lv_at hl 0 rfl) ?_
    refine m_gR hx hb hown hk hH hF fk_RX10_probes lk_RX10_23 dX10_init_100 (fun v14 hF => ?_)
    refine lv_iload_n hx hb dX10_init_103 rfl (lv_at hl 1 rfl) ?_
    refine m_new hx hb hown hk hH hE.le hz hF rfl nf_RX6 wd_58 wd_140 wd_37 dX10_init_104 (fun a15 ws H hH hF => ?_)
    refine lv_dup hx hb dX10_init_107 rfl ?_
    refine m_cIN hx hb hml hown hk hH hE.le hz (b := a15) (As := []) (rest := [.ref a15, .int x1, va_rf v14]) (t_X6_init l D cy z a15) hF ⟨_, wd_141⟩ wd_142 wd_37 wd_143 yn_X6_init rfl ⟨Nat.le_trans (by decide) hfr, Nat.le_trans (by decide) hlo⟩ hl.1 (by first | exact Nat.le_of_ble_eq_true rfl | simp [m_cat, m_ci, m_cl, m_cf, m_cd, m_cr]) rfl dX10_init_108 (fun c16 ws H locs cells slots hH hF => ?_)
    refine m_sR (t := 10) hx hb hk hH ⟨by decide, rfl⟩ (m_c1 ⟨_, rfl, Or.inl rfl⟩) hF dX10_init_111 (fun ws H locs hH hF => ?_)
    refine lv_iinc (v := (x1 + (1 : Int32))) (lv' := [(1, .int (x1 + (1 : Int32))), (0, .ref x0)]) hx hb dX10_init_112 hl (k := 1) rfl (by first | rfl | (congr 1)) (by decide) (by first | rfl | simp [m_cat, m_ci, m_cl, m_cf, m_cd, m_cr]) (fun ls hl => ?_)
    refine lv_goto (tgt := 94) hx hb dX10_init_115 (by decide) ?_
    exact hrec _ _ _ _ _ _ _ (lv_sub hl [1, 0] rfl) hH hF
theorem w_X10_init_94 {l : Launch} {D : va_G} {cy : Nat → ClassId} {z : Nat} {p : Program} {e : Env} {R : Room} {s : State} {m : MethodId} {args : Array Value} {below : List Frame} {meth : Method} {c : Code} {ws0 wsf : WS} {rr : Unit} (cx : Cx D cy z RX10 cX10_init 2 none 2 61 "<init>" p R s m meth c) (hE : AC ws0 wsf R.cells R.slots) (x0 : Nat) (k : St (Unit)) (hkk : At_ l D cy z p e R s m args below meth c ws0 wsf vU rr 2 118 [] [] (k)) : ∀ (n : Nat) (x1 : Int32), At_ l D cy z p e R s m args below meth c ws0 wsf vU rr 2 94 [(0, .ref x0), (1, .int x1)] [] (l_X10_init_94 x0 k n x1) := by
  intro n
  induction n with
  | zero =>
    intro x1 ws H locs cells slots ls hl hH hF
    exact fl_t hF
  | succ n ih =>
    intro x1
    exact wb_X10_init_94 cx hE x0 (l_X10_init_94 x0 k n) k ih hkk x1
set_option maxHeartbeats 4000000 in
set_option maxRecDepth 100000 in
theorem t_X10_init (l : Launch) (D : va_G) (cy : Nat → ClassId) (z : Nat) (o : Nat) : MT l D cy z yX10_init cX10_init 2 none 2 61 (F_X10_init o) vU [.ref o] := by
  refine m_enter [(0, .ref o)] (by decide) (by first | rfl | simp [lv_args, m_cat, m_ci, m_cl, m_cf, m_cd, m_cr]) (by first | exact Nat.le_of_ble_eq_true rfl | simp [lg_sl, m_cat, m_ci, m_cl, m_cf, m_cd, m_cr]) ?_
  intro p e R s m args below meth c ws0 wsf rr cx hE ws H locs cells slots ls hl hH hF
  obtain ⟨hx, hb, hr, hml, hown, hk, hz, hlocks, hnm, hfr, hlo⟩ := id cx
  unfold F_X10_init at hF
  refine lv_aload_n hx hb dX10_init_0 rfl (lv_at hl 0 rfl) ?_
  refine W.objInit hx hb hown (hk.wd wd_51 args) (hk.wd wd_52 args) (hk.wd wd_53 args) rfl (by rw [hml]; exact hl.1) rfl dX10_init_1 (Nat.le_trans (by decide) hfr) (Nat.le_trans (m := 40) (by first | exact Nat.le_of_ble_eq_true rfl | simp [m_cat, m_ci, m_cl, m_cf, m_cd, m_cr]) (Nat.le_trans (by decide) hlo)) ?_
  refine W.eq (g2 := F0 m 4 ls []) rfl ?_
  refine lv_aload_n hx hb dX10_init_4 rfl (lv_at hl 0 rfl) ?_
  refine lv_bipush (v := (8)) hx hb dX10_init_5 (by decide) ?_
  refine m_nQ (t := 8) hx hb hown hk hH hE.le hz ⟨by decide, rfl⟩ wd_54 wd_55 hF dX10_init_7 (fun a1 ws H hH hF => ?_)
  refine m_pVF hx hb hown hk hH hnm hF fk_RX10_sensors wd_167 rfl pd_14 (m_nra _ _) (m_fra _ _) dX10_init_10 (fun ws H locs hH hF => ?_)
  refine lv_aload_n hx hb dX10_init_13 rfl (lv_at hl 0 rfl) ?_
  refine lv_bipush (v := (60)) hx hb dX10_init_14 (by decide) ?_
  refine m_nQ (t := 9) hx hb hown hk hH hE.le hz ⟨by decide, rfl⟩ wd_56 wd_57 hF dX10_init_16 (fun a2 ws H hH hF => ?_)
  refine m_pVF hx hb hown hk hH hnm hF fk_RX10_curves wd_168 rfl pd_15 (m_nra _ _) (m_fra _ _) dX10_init_19 (fun ws H locs hH hF => ?_)
  refine lv_aload_n hx hb dX10_init_22 rfl (lv_at hl 0 rfl) ?_
  refine lv_iconst (v := (4)) hx hb dX10_init_23 (by decide) ?_
  refine m_nQ (t := 10) hx hb hown hk hH hE.le hz ⟨by decide, rfl⟩ wd_58 wd_59 hF dX10_init_24 (fun a3 ws H hH hF => ?_)
  refine m_pVF hx hb hown hk hH hnm hF fk_RX10_probes wd_169 rfl pd_16 (m_nra _ _) (m_fra _ _) dX10_init_27 (fun ws H locs hH hF => ?_)
  refine lv_aload_n hx hb dX10_init_30 rfl (lv_at hl 0 rfl) ?_
  refine lv_iconst (v := (4)) hx hb dX10_init_31 (by decide) ?_
  refine m_nQ (t := 11) hx hb hown hk hH hE.le hz ⟨by decide, rfl⟩ wd_60 wd_61 hF dX10_init_32 (fun a4 ws H hH hF => ?_)
  refine m_pVF hx hb hown hk hH hnm hF fk_RX10_tables wd_170 rfl pd_17 (m_nra _ _) (m_fra _ _) dX10_init_35 (fun ws H locs hH hF => ?_)
  refine lv_aload_n hx hb dX10_init_38 rfl (lv_at hl 0 rfl) ?_
  refine m_new hx hb hown hk hH hE.le hz hF rfl nf_RX0 wd_62 wd_63 wd_34 dX10_init_39 (fun a5 ws H hH hF => ?_)
  refine lv_dup hx hb dX10_init_42 rfl ?_
  refine m_cI hx hb hml hown hk hH hE.le hz (b := a5) (As := []) (rest := [.ref a5, .ref o]) (t_X0_init l D cy z a5) hF wd_64 wd_65 wd_34 wd_66 yn_X0_init rfl ⟨Nat.le_trans (by decide) hfr, Nat.le_trans (by decide) hlo⟩ hl.1 (by first | exact Nat.le_of_ble_eq_true rfl | simp [m_cat, m_ci, m_cl, m_cf, m_cd, m_cr]) rfl dX10_init_43 (fun c6 ws H locs cells slots hH hF => ?_)
  refine m_pVF hx hb hown hk hH hnm hF fk_RX10_banks wd_171 rfl pd_18 (m_nrf _ _) (m_frf _ _) dX10_init_46 (fun ws H locs hH hF => ?_)
  refine lv_aload_n hx hb dX10_init_49 rfl (lv_at hl 0 rfl) ?_
  refine m_new hx hb hown hk hH hE.le hz hF rfl nf_RX3 wd_104 wd_105 wd_35 dX10_init_50 (fun a7 ws H hH hF => ?_)
  refine lv_dup hx hb dX10_init_53 rfl ?_
  refine m_cIN hx hb hml hown hk hH hE.le hz (b := a7) (As := []) (rest := [.ref a7, .ref o]) (t_X3_init l D cy z a7) hF ⟨_, wd_106⟩ wd_107 wd_35 wd_108 yn_X3_init rfl ⟨Nat.le_trans (by decide) hfr, Nat.le_trans (by decide) hlo⟩ hl.1 (by first | exact Nat.le_of_ble_eq_true rfl | simp [m_cat, m_ci, m_cl, m_cf, m_cd, m_cr]) rfl dX10_init_54 (fun c8 ws H locs cells slots hH hF => ?_)
  refine m_pV hx hb hown hk hH hF fk_RX10_told lk_RX10_43 pd_11 (m_nrf _ _) (m_frf _ _) dX10_init_57 (fun ws H locs hH hF => ?_)
  refine lv_aload_n hx hb dX10_init_60 rfl (lv_at hl 0 rfl) ?_
  refine lv_iconst (v := (0)) hx hb dX10_init_61 (by decide) ?_
  refine m_pV hx hb hown hk hH hF fk_RX10_curveCount lk_RX10_47 pd_9 rfl rfl dX10_init_62 (fun ws H locs hH hF => ?_)
  refine lv_iconst (v := (0)) hx hb dX10_init_65 (by decide) ?_
  refine lv_istore_n (lv' := [(1, .int (0 : Int32)), (0, .ref o)]) hx hb dX10_init_66 rfl hl (by decide) (by first | rfl | simp [m_cat, m_ci, m_cl, m_cf, m_cd, m_cr]) (fun ls hl => ?_)
  refine w_X10_init_67 cx hE o _ (fun ws H locs cells slots ls hl hH hF => ?_) _ _ _ _ _ _ _ _ (lv_sub hl [1, 0] rfl) hH hF
  refine lv_iconst (v := (0)) hx hb dX10_init_92 (by decide) ?_
  refine lv_istore_n (lv' := [(1, .int (0 : Int32)), (0, .ref o)]) hx hb dX10_init_93 rfl hl (by decide) (by first | rfl | simp [m_cat, m_ci, m_cl, m_cf, m_cd, m_cr]) (fun ls hl => ?_)
  refine w_X10_init_94 cx hE o _ (fun ws H locs cells slots ls hl hH hF => ?_) _ _ _ _ _ _ _ _ (lv_sub hl [1, 0] rfl) hH hF
  exact m_vret hx hb hr hlocks hH hE hF dX10_init_118

def F_X10_isCount (x0 : Int32) : St (Int32) :=
  br (x0 < 0) (rt (0 : Int32)) (br ((4095 : Int32) < x0) (rt (0 : Int32)) (rt (1 : Int32)))
set_option maxHeartbeats 4000000 in
set_option maxRecDepth 100000 in
theorem t_X10_isCount (l : Launch) (D : va_G) (cy : Nat → ClassId) (z : Nat) (x0 : Int32) : MT l D cy z yX10_isCount cX10_isCount 1 (some .boolean) 0 0 (F_X10_isCount x0) vI [.int x0] := by
  refine m_enter [(0, .int x0)] (by decide) (by first | rfl | simp [lv_args, m_cat, m_ci, m_cl, m_cf, m_cd, m_cr]) (by first | exact Nat.le_of_ble_eq_true rfl | simp [lg_sl, m_cat, m_ci, m_cl, m_cf, m_cd, m_cr]) ?_
  intro p e R s m args below meth c ws0 wsf rr cx hE ws H locs cells slots ls hl hH hF
  obtain ⟨hx, hb, hr, hml, hown, hk, hz, hlocks, hnm, hfr, hlo⟩ := id cx
  unfold F_X10_isCount at hF
  refine lv_iload_n hx hb dX10_isCount_0 rfl (lv_at hl 0 rfl) ?_
  refine lv_if_lt (tgt := 15) hx hb dX10_isCount_1 (by decide) (fun hc0 => ?_) (fun hc0 => ?_)
  · have hF := bq_t hc0 hF
    refine lv_iconst (v := (0)) hx hb dX10_isCount_15 (by decide) ?_
    exact m_iret hx hb hr hlocks hH hE hF rfl dX10_isCount_16
  · have hF := bq_f hc0 hF
    refine lv_iload_n hx hb dX10_isCount_4 rfl (lv_at hl 0 rfl) ?_
    refine lv_sipush (v := (4095)) hx hb dX10_isCount_5 (by decide) ?_
    refine lv_icmp_gt (tgt := 15) hx hb dX10_isCount_8 (by decide) (fun hc1 => ?_) (fun hc1 => ?_)
    · have hF := bq_t hc1 hF
      refine lv_iconst (v := (0)) hx hb dX10_isCount_15 (by decide) ?_
      exact m_iret hx hb hr hlocks hH hE hF rfl dX10_isCount_16
    · have hF := bq_f hc1 hF
      refine lv_iconst (v := (1)) hx hb dX10_isCount_11 (by decide) ?_
      refine lv_goto (tgt := 16) hx hb dX10_isCount_12 (by decide) ?_
      exact m_iret hx hb hr hlocks hH hE hF rfl dX10_isCount_16

def F_X10_isWithin (x0 : Int32) (x1 : Int32) : St (Int32) :=
  br (x0 < (-x1)) (rt (0 : Int32)) (br (x1 < x0) (rt (0 : Int32)) (rt (1 : Int32)))
set_option maxHeartbeats 4000000 in
set_option maxRecDepth 100000 in
theorem t_X10_isWithin (l : Launch) (D : va_G) (cy : Nat → ClassId) (z : Nat) (x0 : Int32) (x1 : Int32) : MT l D cy z yX10_isWithin cX10_isWithin 2 (some .boolean) 0 0 (F_X10_isWithin x0 x1) vI [.int x0, .int x1] := by
  refine m_enter [(0, .int x0), (1, .int x1)] (by decide) (by first | rfl | simp [lv_args, m_cat, m_ci, m_cl, m_cf, m_cd, m_cr]) (by first | exact Nat.le_of_ble_eq_true rfl | simp [lg_sl, m_cat, m_ci, m_cl, m_cf, m_cd, m_cr]) ?_
  intro p e R s m args below meth c ws0 wsf rr cx hE ws H locs cells slots ls hl hH hF
  obtain ⟨hx, hb, hr, hml, hown, hk, hz, hlocks, hnm, hfr, hlo⟩ := id cx
  unfold F_X10_isWithin at hF
  refine lv_iload_n hx hb dX10_isWithin_0 rfl (lv_at hl 0 rfl) ?_
  refine lv_iload_n hx hb dX10_isWithin_1 rfl (lv_at hl 1 rfl) ?_
  refine lv_ineg hx hb dX10_isWithin_2 ?_
  refine lv_icmp_lt (tgt := 15) hx hb dX10_isWithin_3 (by decide) (fun hc0 => ?_) (fun hc0 => ?_)
  · have hF := bq_t hc0 hF
    refine lv_iconst (v := (0)) hx hb dX10_isWithin_15 (by decide) ?_
    exact m_iret hx hb hr hlocks hH hE hF rfl dX10_isWithin_16
  · have hF := bq_f hc0 hF
    refine lv_iload_n hx hb dX10_isWithin_6 rfl (lv_at hl 0 rfl) ?_
    refine lv_iload_n hx hb dX10_isWithin_7 rfl (lv_at hl 1 rfl) ?_
    refine lv_icmp_gt (tgt := 15) hx hb dX10_isWithin_8 (by decide) (fun hc1 => ?_) (fun hc1 => ?_)
    · have hF := bq_t hc1 hF
      refine lv_iconst (v := (0)) hx hb dX10_isWithin_15 (by decide) ?_
      exact m_iret hx hb hr hlocks hH hE hF rfl dX10_isWithin_16
    · have hF := bq_f hc1 hF
      refine lv_iconst (v := (1)) hx hb dX10_isWithin_11 (by decide) ?_
      refine lv_goto (tgt := 16) hx hb dX10_isWithin_12 (by decide) ?_
      exact m_iret hx hb hr hlocks hH hE hF rfl dX10_isWithin_16

def F_X10_sensorNumbered (o : Nat) (x1 : Int32) : St (Option Nat) :=
  br (x1 < 0) (rt none) (br (x1 < (8 : Int32)) (bd (gR [9] 0 (some o)) fun v3 => bd (aR 8 v3 x1) fun v4 => rt v4) (rt none))
set_option maxHeartbeats 4000000 in
set_option maxRecDepth 100000 in
theorem t_X10_sensorNumbered (l : Launch) (D : va_G) (cy : Nat → ClassId) (z : Nat) (o : Nat) (x1 : Int32) : MT l D cy z yX10_sensorNumbered cX10_sensorNumbered 2 (some (.object "CurveFoundry$Sensor")) 0 0 (F_X10_sensorNumbered o x1) vR [.ref o, .int x1] := by
  refine m_enter [(0, .ref o), (1, .int x1)] (by decide) (by first | rfl | simp [lv_args, m_cat, m_ci, m_cl, m_cf, m_cd, m_cr]) (by first | exact Nat.le_of_ble_eq_true rfl | simp [lg_sl, m_cat, m_ci, m_cl, m_cf, m_cd, m_cr]) ?_
  intro p e R s m args below meth c ws0 wsf rr cx hE ws H locs cells slots ls hl hH hF
  obtain ⟨hx, hb, hr, hml, hown, hk, hz, hlocks, hnm, hfr, hlo⟩ := id cx
  unfold F_X10_sensorNumbered at hF
  refine lv_iload_n hx hb dX10_sensorNumbered_0 rfl (lv_at hl 1 rfl) ?_
  refine lv_if_lt (tgt := 10) hx hb dX10_sensorNumbered_1 (by decide) (fun hc0 => ?_) (fun hc0 => ?_)
  · have hF := bq_t hc0 hF
    refine lv_null hx hb dX10_sensorNumbered_10 ?_
    refine lv_goto (tgt := 20) hx hb dX10_sensorNumbered_11 (by decide) ?_
    exact m_aret hx hb hr (Or.inl ⟨_, rfl⟩) hlocks hH hE hF dX10_sensorNumbered_20
  · have hF := bq_f hc0 hF
    refine lv_iload_n hx hb dX10_sensorNumbered_4 rfl (lv_at hl 1 rfl) ?_
    refine lv_bipush (v := (8)) hx hb dX10_sensorNumbered_5 (by decide) ?_
    refine lv_icmp_lt (tgt := 14) hx hb dX10_sensorNumbered_7 (by decide) (fun hc1 => ?_) (fun hc1 => ?_)
    · have hF := bq_t hc1 hF
      refine lv_aload_n hx hb dX10_sensorNumbered_14 rfl (lv_at hl 0 rfl) ?_
      refine m_gR hx hb hown hk hH hF fk_RX10_sensors lk_RX10_11 dX10_sensorNumbered_15 (fun v3 hF => ?_)
      refine lv_iload_n hx hb dX10_sensorNumbered_18 rfl (lv_at hl 1 rfl) ?_
      refine m_aR (t := 8) hx hb hk hH ⟨by decide, rfl⟩ hF dX10_sensorNumbered_19 (fun v4 hF => ?_)
      exact m_aret hx hb hr (Or.inl ⟨_, rfl⟩) hlocks hH hE hF dX10_sensorNumbered_20
    · have hF := bq_f hc1 hF
      refine lv_null hx hb dX10_sensorNumbered_10 ?_
      refine lv_goto (tgt := 20) hx hb dX10_sensorNumbered_11 (by decide) ?_
      exact m_aret hx hb hr (Or.inl ⟨_, rfl⟩) hlocks hH hE hF dX10_sensorNumbered_20

def F_X10_reading (o : Nat) (x1 : Int32) (x2 : Int32) (x3 : Int32) (x4 : Int32) : St (Int32) :=
  bd (dr [9] (some o)) fun q2 => bd (F_X10_sensorNumbered q2.1 x1) fun c1 => br (c1 = none) (rt (-2 : Int32)) (bd (F_X10_isCount x2) fun c4 => br (c4 = 0) (rt (-2 : Int32)) (bd (F_X10_isWithin x3 (10000 : Int32)) fun c6 => br (c6 = 0) (rt (-2 : Int32)) (br (x4 < (1 : Int32)) (rt (-2 : Int32)) (br ((20 : Int32) < x4) (rt (-2 : Int32)) (bd (gI [7] 3 c1) fun v10 => br (v10 < (24 : Int32)) (bd (dr [7] c1) fun q13 => bd (F_X8_add q13.1 x2 x3 x4) fun c12 => bd (gI [7] 3 c1) fun v14 => rt v14) (rt (-2 : Int32)))))))
set_option maxHeartbeats 4000000 in
set_option maxRecDepth 100000 in
theorem t_X10_reading (l : Launch) (D : va_G) (cy : Nat → ClassId) (z : Nat) (o : Nat) (x1 : Int32) (x2 : Int32) (x3 : Int32) (x4 : Int32) : MT l D cy z yX10_reading cX10_reading 6 (some .int) 1 40 (F_X10_reading o x1 x2 x3 x4) vI [.ref o, .int x1, .int x2, .int x3, .int x4] := by
  refine m_enter [(0, .ref o), (1, .int x1), (2, .int x2), (3, .int x3), (4, .int x4)] (by decide) (by first | rfl | simp [lv_args, m_cat, m_ci, m_cl, m_cf, m_cd, m_cr]) (by first | exact Nat.le_of_ble_eq_true rfl | simp [lg_sl, m_cat, m_ci, m_cl, m_cf, m_cd, m_cr]) ?_
  intro p e R s m args below meth c ws0 wsf rr cx hE ws H locs cells slots ls hl hH hF
  obtain ⟨hx, hb, hr, hml, hown, hk, hz, hlocks, hnm, hfr, hlo⟩ := id cx
  unfold F_X10_reading at hF
  refine lv_aload_n hx hb dX10_reading_0 rfl (lv_at hl 0 rfl) ?_
  refine lv_iload_n hx hb dX10_reading_1 rfl (lv_at hl 1 rfl) ?_
  refine m_cVR hx hb hml hown hk hH hE.le hz (F := fun q2 => F_X10_sensorNumbered q2.1 x1) (C := RX10) (T := TX10) (N := 7) rfl (As := [.int x1]) (rest := []) (fun o => t_X10_sensorNumbered l D cy z o x1) hF wd_193 wd_195 wd_33 wd_196 wd_0 yn_X10_sensorNumbered ⟨Nat.le_trans (by decide) hfr, Nat.le_trans (by decide) hlo⟩ hl.1 (by first | exact Nat.le_of_ble_eq_true rfl | simp [m_cat, m_ci, m_cl, m_cf, m_cd, m_cr]) rfl dX10_reading_2 (fun c1 ws H locs cells slots hH hF => ?_)
  refine m_astore (lv' := [(5, va_rf c1), (0, .ref o), (1, .int x1), (2, .int x2), (3, .int x3), (4, .int x4)]) hx hb dX10_reading_5 hl (by decide) (by first | rfl | simp [m_cat, m_ci, m_cl, m_cf, m_cd, m_cr]) (fun ls hl => ?_)
  refine m_aload hx hb dX10_reading_7 (lv_at hl 0 rfl) ?_
  refine m_ifnull (tgt := 29) hx hb dX10_reading_9 (by decide) (fun hc2 => ?_) (fun hc2 => ?_)
  · have hF := bq_t hc2 hF
    refine lv_bipush (v := (-2)) hx hb dX10_reading_29 (by decide) ?_
    exact m_iret hx hb hr hlocks hH hE hF rfl dX10_reading_31
  · have hF := bq_f hc2 hF
    refine lv_iload_n hx hb dX10_reading_12 rfl (lv_at hl 3 rfl) ?_
    refine m_cSI hx hb hml hown hk hH hE.le hz (As := [.int x2]) (rest := []) (t_X10_isCount l D cy z x2) hF wd_197 wd_198 wd_33 wd_199 yn_X10_isCount ⟨Nat.le_trans (by decide) hfr, Nat.le_trans (by decide) hlo⟩ hl.1 (by first | exact Nat.le_of_ble_eq_true rfl | simp [m_cat, m_ci, m_cl, m_cf, m_cd, m_cr]) rfl dX10_reading_13 (fun c4 ws H locs cells slots hH hF => ?_)
    refine lv_if_eq (tgt := 29) hx hb dX10_reading_16 (by decide) (fun hc4 => ?_) (fun hc4 => ?_)
    · have hF := bq_t hc4 hF
      refine lv_bipush (v := (-2)) hx hb dX10_reading_29 (by decide) ?_
      exact m_iret hx hb hr hlocks hH hE hF rfl dX10_reading_31
    · have hF := bq_f hc4 hF
      refine lv_iload_n hx hb dX10_reading_19 rfl (lv_at hl 4 rfl) ?_
      refine lv_sipush (v := (10000)) hx hb dX10_reading_20 (by decide) ?_
      refine m_cSI hx hb hml hown hk hH hE.le hz (As := [.int x3, .int (10000 : Int32)]) (rest := []) (t_X10_isWithin l D cy z x3 (10000 : Int32)) hF wd_200 wd_201 wd_33 wd_202 yn_X10_isWithin ⟨Nat.le_trans (by decide) hfr, Nat.le_trans (by decide) hlo⟩ hl.1 (by first | exact Nat.le_of_ble_eq_true rfl | simp [m_cat, m_ci, m_cl, m_cf, m_cd, m_cr]) rfl dX10_reading_23 (fun c6 ws H locs cells slots hH hF => ?_)
      refine lv_if_ne (tgt := 32) hx hb dX10_reading_26 (by decide) (fun hc6 => ?_) (fun hc6 => ?_)
      · have hF := bq_f hc6 hF
        refine lv_iload hx hb dX10_reading_32 (lv_at hl 5 rfl) ?_
        refine lv_iconst (v := (1)) hx hb dX10_reading_34 (by decide) ?_
        refine lv_icmp_lt (tgt := 55) hx hb dX10_reading_35 (by decide) (fun hc7 => ?_) (fun hc7 => ?_)
        · have hF := bq_t hc7 hF
          refine lv_bipush (v := (-2)) hx hb dX10_reading_55 (by decide) ?_
          exact m_iret hx hb hr hlocks hH hE hF rfl dX10_reading_57
        · have hF := bq_f hc7 hF
          refine lv_iload hx hb dX10_reading_38 (lv_at hl 5 rfl) ?_
          refine lv_bipush (v := (20)) hx hb dX10_reading_40 (by decide) ?_
          refine lv_icmp_gt (tgt := 55) hx hb dX10_reading_42 (by decide) (fun hc8 => ?_) (fun hc8 => ?_)
          · have hF := bq_t hc8 hF
            refine lv_bipush (v := (-2)) hx hb dX10_reading_55 (by decide) ?_
            exact m_iret hx hb hr hlocks hH hE hF rfl dX10_reading_57
          · have hF := bq_f hc8 hF
            refine m_aload hx hb dX10_reading_45 (lv_at hl 0 rfl) ?_
            refine m_gI hx hb hown hk hH hF fk_RX8_size lk_RX10_65 dX10_reading_47 (fun v10 hF => ?_)
            refine lv_bipush (v := (24)) hx hb dX10_reading_50 (by decide) ?_
            refine lv_icmp_lt (tgt := 58) hx hb dX10_reading_52 (by decide) (fun hc10 => ?_) (fun hc10 => ?_)
            · have hF := bq_t hc10 hF
              refine m_aload hx hb dX10_reading_58 (lv_at hl 0 rfl) ?_
              refine lv_iload_n hx hb dX10_reading_60 rfl (lv_at hl 3 rfl) ?_
              refine lv_iload_n hx hb dX10_reading_61 rfl (lv_at hl 4 rfl) ?_
              refine lv_iload hx hb dX10_reading_62 (lv_at hl 5 rfl) ?_
              refine m_cVU hx hb hml hown hk hH hE.le hz (F := fun q13 => F_X8_add q13.1 x2 x3 x4) (C := RX8) (T := TX8) (N := 4) rfl (As := [.int x2, .int x3, .int x4]) (rest := []) (fun o => t_X8_add l D cy z o x2 x3 x4) hF wd_203 wd_204 wd_36 wd_206 wd_205 yn_X8_add ⟨Nat.le_trans (by decide) hfr, Nat.le_trans (by decide) hlo⟩ hl.1 (by first | exact Nat.le_of_ble_eq_true rfl | simp [m_cat, m_ci, m_cl, m_cf, m_cd, m_cr]) rfl dX10_reading_64 (fun c12 ws H locs cells slots hH hF => ?_)
              refine m_aload hx hb dX10_reading_67 (lv_at hl 0 rfl) ?_
              refine m_gI hx hb hown hk hH hF fk_RX8_size lk_RX10_65 dX10_reading_69 (fun v14 hF => ?_)
              exact m_iret hx hb hr hlocks hH hE hF rfl dX10_reading_72
            · have hF := bq_f hc10 hF
              refine lv_bipush (v := (-2)) hx hb dX10_reading_55 (by decide) ?_
              exact m_iret hx hb hr hlocks hH hE hF rfl dX10_reading_57
      · have hF := bq_t hc6 hF
        refine lv_bipush (v := (-2)) hx hb dX10_reading_29 (by decide) ?_
        exact m_iret hx hb hr hlocks hH hE hF rfl dX10_reading_31

def F_X10_drop (o : Nat) (x1 : Int32) (x2 : Int32) : St (Int32) :=
  bd (dr [9] (some o)) fun q2 => bd (F_X10_sensorNumbered q2.1 x1) fun c1 => br (c1 = none) (rt (-2 : Int32)) (bd (dr [7] c1) fun q5 => bd (F_X8_has q5.1 x2) fun c4 => br (c4 = 0) (rt (-2 : Int32)) (bd (dr [7] c1) fun q8 => bd (F_X8_remove q8.1 x2) fun c7 => bd (gI [7] 3 c1) fun v9 => rt v9))
set_option maxHeartbeats 4000000 in
set_option maxRecDepth 100000 in
theorem t_X10_drop (l : Launch) (D : va_G) (cy : Nat → ClassId) (z : Nat) (o : Nat) (x1 : Int32) (x2 : Int32) : MT l D cy z yX10_drop cX10_drop 4 (some .int) 1 40 (F_X10_drop o x1 x2) vI [.ref o, .int x1, .int x2] := by
  refine m_enter [(0, .ref o), (1, .int x1), (2, .int x2)] (by decide) (by first | rfl | simp [lv_args, m_cat, m_ci, m_cl, m_cf, m_cd, m_cr]) (by first | exact Nat.le_of_ble_eq_true rfl | simp [lg_sl, m_cat, m_ci, m_cl, m_cf, m_cd, m_cr]) ?_
  intro p e R s m args below meth c ws0 wsf rr cx hE ws H locs cells slots ls hl hH hF
  obtain ⟨hx, hb, hr, hml, hown, hk, hz, hlocks, hnm, hfr, hlo⟩ := id cx
  unfold F_X10_drop at hF
  refine lv_aload_n hx hb dX10_drop_0 rfl (lv_at hl 0 rfl) ?_
  refine lv_iload_n hx hb dX10_drop_1 rfl (lv_at hl 1 rfl) ?_
  refine m_cVR hx hb hml hown hk hH hE.le hz (F := fun q2 => F_X10_sensorNumbered q2.1 x1) (C := RX10) (T := TX10) (N := 7) rfl (As := [.int x1]) (rest := []) (fun o => t_X10_sensorNumbered l D cy z o x1) hF wd_193 wd_195 wd_33 wd_196 wd_0 yn_X10_sensorNumbered ⟨Nat.le_trans (by decide) hfr, Nat.le_trans (by decide) hlo⟩ hl.1 (by first | exact Nat.le_of_ble_eq_true rfl | simp [m_cat, m_ci, m_cl, m_cf, m_cd, m_cr]) rfl dX10_drop_2 (fun c1 ws H locs cells slots hH hF => ?_)
  refine m_astore_n (lv' := [(3, va_rf c1), (0, .ref o), (1, .int x1), (2, .int x2)]) hx hb dX10_drop_5 rfl hl (by decide) (by first | rfl | simp [m_cat, m_ci, m_cl, m_cf, m_cd, m_cr]) (fun ls hl => ?_)
  refine m_aload_n hx hb dX10_drop_6 rfl (lv_at hl 0 rfl) ?_
  refine m_ifnull (tgt := 18) hx hb dX10_drop_7 (by decide) (fun hc2 => ?_) (fun hc2 => ?_)
  · have hF := bq_t hc2 hF
    refine lv_bipush (v := (-2)) hx hb dX10_drop_18 (by decide) ?_
    exact m_iret hx hb hr hlocks hH hE hF rfl dX10_drop_20
  · have hF := bq_f hc2 hF
    refine m_aload_n hx hb dX10_drop_10 rfl (lv_at hl 0 rfl) ?_
    refine lv_iload_n hx hb dX10_drop_11 rfl (lv_at hl 3 rfl) ?_
    refine m_cVI hx hb hml hown hk hH hE.le hz (F := fun q5 => F_X8_has q5.1 x2) (C := RX8) (T := TX8) (N := 4) rfl (As := [.int x2]) (rest := []) (fun o => t_X8_has l D cy z o x2) hF wd_211 wd_212 wd_36 wd_214 wd_213 yn_X8_has ⟨Nat.le_trans (by decide) hfr, Nat.le_trans (by decide) hlo⟩ hl.1 (by first | exact Nat.le_of_ble_eq_true rfl | simp [m_cat, m_ci, m_cl, m_cf, m_cd, m_cr]) rfl dX10_drop_12 (fun c4 ws H locs cells slots hH hF => ?_)
    refine lv_if_ne (tgt := 21) hx hb dX10_drop_15 (by decide) (fun hc5 => ?_) (fun hc5 => ?_)
    · have hF := bq_f hc5 hF
      refine m_aload_n hx hb dX10_drop_21 rfl (lv_at hl 0 rfl) ?_
      refine lv_iload_n hx hb dX10_drop_22 rfl (lv_at hl 3 rfl) ?_
      refine m_cVU hx hb hml hown hk hH hE.le hz (F := fun q8 => F_X8_remove q8.1 x2) (C := RX8) (T := TX8) (N := 4) rfl (As := [.int x2]) (rest := []) (fun o => t_X8_remove l D cy z o x2) hF wd_215 wd_216 wd_36 wd_218 wd_217 yn_X8_remove ⟨Nat.le_trans (by decide) hfr, Nat.le_trans (by decide) hlo⟩ hl.1 (by first | exact Nat.le_of_ble_eq_true rfl | simp [m_cat, m_ci, m_cl, m_cf, m_cd, m_cr]) rfl dX10_drop_23 (fun c7 ws H locs cells slots hH hF => ?_)
      refine m_aload_n hx hb dX10_drop_26 rfl (lv_at hl 0 rfl) ?_
      refine m_gI hx hb hown hk hH hF fk_RX8_size lk_RX10_65 dX10_drop_27 (fun v9 hF => ?_)
      exact m_iret hx hb hr hlocks hH hE hF rfl dX10_drop_30
    · have hF := bq_t hc5 hF
      refine lv_bipush (v := (-2)) hx hb dX10_drop_18 (by decide) ?_
      exact m_iret hx hb hr hlocks hH hE hF rfl dX10_drop_20

def F_X10_readings (o : Nat) (x1 : Int32) : St (Int32) :=
  bd (dr [9] (some o)) fun q2 => bd (F_X10_sensorNumbered q2.1 x1) fun c1 => br (c1 = none) (rt (-2 : Int32)) (bd (gI [7] 3 c1) fun v4 => rt v4)
set_option maxHeartbeats 4000000 in
set_option maxRecDepth 100000 in
theorem t_X10_readings (l : Launch) (D : va_G) (cy : Nat → ClassId) (z : Nat) (o : Nat) (x1 : Int32) : MT l D cy z yX10_readings cX10_readings 3 (some .int) 1 40 (F_X10_readings o x1) vI [.ref o, .int x1] := by
  refine m_enter [(0, .ref o), (1, .int x1)] (by decide) (by first | rfl | simp [lv_args, m_cat, m_ci, m_cl, m_cf, m_cd, m_cr]) (by first | exact Nat.le_of_ble_eq_true rfl | simp [lg_sl, m_cat, m_ci, m_cl, m_cf, m_cd, m_cr]) ?_
  intro p e R s m args below meth c ws0 wsf rr cx hE ws H locs cells slots ls hl hH hF
  obtain ⟨hx, hb, hr, hml, hown, hk, hz, hlocks, hnm, hfr, hlo⟩ := id cx
  unfold F_X10_readings at hF
  refine lv_aload_n hx hb dX10_readings_0 rfl (lv_at hl 0 rfl) ?_
  refine lv_iload_n hx hb dX10_readings_1 rfl (lv_at hl 1 rfl) ?_
  refine m_cVR hx hb hml hown hk hH hE.le hz (F := fun q2 => F_X10_sensorNumbered q2.1 x1) (C := RX10) (T := TX10) (N := 7) rfl (As := [.int x1]) (rest := []) (fun o => t_X10_sensorNumbered l D cy z o x1) hF wd_193 wd_195 wd_33 wd_196 wd_0 yn_X10_sensorNumbered ⟨Nat.le_trans (by decide) hfr, Nat.le_trans (by decide) hlo⟩ hl.1 (by first | exact Nat.le_of_ble_eq_true rfl | simp [m_cat, m_ci, m_cl, m_cf, m_cd, m_cr]) rfl dX10_readings_2 (fun c1 ws H locs cells slots hH hF => ?_)
  refine m_astore_n (lv' := [(2, va_rf c1), (0, .ref o), (1, .int x1)]) hx hb dX10_readings_5 rfl hl (by decide) (by first | rfl | simp [m_cat, m_ci, m_cl, m_cf, m_cd, m_cr]) (fun ls hl => ?_)
  refine m_aload_n hx hb dX10_readings_6 rfl (lv_at hl 0 rfl) ?_
  refine m_ifnonnull (tgt := 15) hx hb dX10_readings_7 (by decide) (fun hc2 => ?_) (fun hc2 => ?_)
  · have hF := bq_f hc2 hF
    refine m_aload_n hx hb dX10_readings_15 rfl (lv_at hl 0 rfl) ?_
    refine m_gI hx hb hown hk hH hF fk_RX8_size lk_RX10_65 dX10_readings_16 (fun v4 hF => ?_)
    exact m_iret hx hb hr hlocks hH hE hF rfl dX10_readings_19
  · have hF := bq_t hc2 hF
    refine lv_bipush (v := (-2)) hx hb dX10_readings_10 (by decide) ?_
    refine lv_goto (tgt := 19) hx hb dX10_readings_12 (by decide) ?_
    exact m_iret hx hb hr hlocks hH hE hF rfl dX10_readings_19

def F_X10_hasRoomFor (o : Nat) (x1 : Int32) : St (Int32) :=
  br ((500 : Int32) < x1) (rt (0 : Int32)) (bd (gI [9] 6 (some o)) fun v2 => br ((60 : Int32) ≤ v2) (rt (0 : Int32)) (rt (1 : Int32)))
set_option maxHeartbeats 4000000 in
set_option maxRecDepth 100000 in
theorem t_X10_hasRoomFor (l : Launch) (D : va_G) (cy : Nat → ClassId) (z : Nat) (o : Nat) (x1 : Int32) : MT l D cy z yX10_hasRoomFor cX10_hasRoomFor 2 (some .boolean) 0 0 (F_X10_hasRoomFor o x1) vI [.ref o, .int x1] := by
  refine m_enter [(0, .ref o), (1, .int x1)] (by decide) (by first | rfl | simp [lv_args, m_cat, m_ci, m_cl, m_cf, m_cd, m_cr]) (by first | exact Nat.le_of_ble_eq_true rfl | simp [lg_sl, m_cat, m_ci, m_cl, m_cf, m_cd, m_cr]) ?_
  intro p e R s m args below meth c ws0 wsf rr cx hE ws H locs cells slots ls hl hH hF
  obtain ⟨hx, hb, hr, hml, hown, hk, hz, hlocks, hnm, hfr, hlo⟩ := id cx
  unfold F_X10_hasRoomFor at hF
  refine lv_iload_n hx hb dX10_hasRoomFor_0 rfl (lv_at hl 1 rfl) ?_
  refine lv_sipush (v := (500)) hx hb dX10_hasRoomFor_1 (by decide) ?_
  refine lv_icmp_gt (tgt := 20) hx hb dX10_hasRoomFor_4 (by decide) (fun hc0 => ?_) (fun hc0 => ?_)
  · have hF := bq_t hc0 hF
    refine lv_iconst (v := (0)) hx hb dX10_hasRoomFor_20 (by decide) ?_
    exact m_iret hx hb hr hlocks hH hE hF rfl dX10_hasRoomFor_21
  · have hF := bq_f hc0 hF
    refine lv_aload_n hx hb dX10_hasRoomFor_7 rfl (lv_at hl 0 rfl) ?_
    refine m_gI hx hb hown hk hH hF fk_RX10_curveCount lk_RX10_47 dX10_hasRoomFor_8 (fun v2 hF => ?_)
    refine lv_bipush (v := (60)) hx hb dX10_hasRoomFor_11 (by decide) ?_
    refine lv_icmp_ge (tgt := 20) hx hb dX10_hasRoomFor_13 (by decide) (fun hc2 => ?_) (fun hc2 => ?_)
    · have hF := bq_t hc2 hF
      refine lv_iconst (v := (0)) hx hb dX10_hasRoomFor_20 (by decide) ?_
      exact m_iret hx hb hr hlocks hH hE hF rfl dX10_hasRoomFor_21
    · have hF := bq_f hc2 hF
      refine lv_iconst (v := (1)) hx hb dX10_hasRoomFor_16 (by decide) ?_
      refine lv_goto (tgt := 21) hx hb dX10_hasRoomFor_17 (by decide) ?_
      exact m_iret hx hb hr hlocks hH hE hF rfl dX10_hasRoomFor_21

def F_X10_keep (o : Nat) (x1 : Option Nat) : St (Int32) :=
  bd (gI [9] 6 (some o)) fun v1 => br (v1 < (60 : Int32)) (bd (gR [9] 1 (some o)) fun v3 => bd (gI [9] 6 (some o)) fun v4 => bd (dr [3, 4, 6] x1) fun _ => bd (sR 9 v3 v4 x1) fun _ => bd (gI [9] 6 (some o)) fun v5 => bd (pV [9] 6 (some o) (.int (v5 + (1 : Int32)))) fun _ => bd (gI [9] 6 (some o)) fun v6 => rt (v6 - (1 : Int32))) (rt (-2 : Int32))
set_option maxHeartbeats 4000000 in
set_option maxRecDepth 100000 in
theorem t_X10_keep (l : Launch) (D : va_G) (cy : Nat → ClassId) (z : Nat) (o : Nat) (x1 : Option Nat) : MT l D cy z yX10_keep cX10_keep 2 (some .int) 0 0 (F_X10_keep o x1) vI [.ref o, va_rf x1] := by
  refine m_enter [(0, .ref o), (1, va_rf x1)] (by decide) (by first | rfl | simp [lv_args, m_cat, m_ci, m_cl, m_cf, m_cd, m_cr]) (by first | exact Nat.le_of_ble_eq_true rfl | simp [lg_sl, m_cat, m_ci, m_cl, m_cf, m_cd, m_cr]) ?_
  intro p e R s m args below meth c ws0 wsf rr cx hE ws H locs cells slots ls hl hH hF
  obtain ⟨hx, hb, hr, hml, hown, hk, hz, hlocks, hnm, hfr, hlo⟩ := id cx
  unfold F_X10_keep at hF
  refine lv_aload_n hx hb dX10_keep_0 rfl (lv_at hl 0 rfl) ?_
  refine m_gI hx hb hown hk hH hF fk_RX10_curveCount lk_RX10_47 dX10_keep_1 (fun v1 hF => ?_)
  refine lv_bipush (v := (60)) hx hb dX10_keep_4 (by decide) ?_
  refine lv_icmp_lt (tgt := 12) hx hb dX10_keep_6 (by decide) (fun hc1 => ?_) (fun hc1 => ?_)
  · have hF := bq_t hc1 hF
    refine lv_aload_n hx hb dX10_keep_12 rfl (lv_at hl 0 rfl) ?_
    refine m_gR hx hb hown hk hH hF fk_RX10_curves lk_RX10_17 dX10_keep_13 (fun v3 hF => ?_)
    refine lv_aload_n hx hb dX10_keep_16 rfl (lv_at hl 0 rfl) ?_
    refine m_gI hx hb hown hk hH hF fk_RX10_curveCount lk_RX10_47 dX10_keep_17 (fun v4 hF => ?_)
    refine m_aload_n hx hb dX10_keep_20 rfl (lv_at hl 1 rfl) ?_
    refine m_sR (t := 9) hx hb hk hH ⟨by decide, rfl⟩ (m_c3 ⟨_, rfl, Or.inr wd_1080⟩ ⟨_, rfl, Or.inr wd_1081⟩ ⟨_, rfl, Or.inr wd_1082⟩) hF dX10_keep_21 (fun ws H locs hH hF => ?_)
    refine lv_aload_n hx hb dX10_keep_22 rfl (lv_at hl 0 rfl) ?_
    refine lv_dup hx hb dX10_keep_23 rfl ?_
    refine m_gI hx hb hown hk hH hF fk_RX10_curveCount lk_RX10_47 dX10_keep_24 (fun v5 hF => ?_)
    refine lv_iconst (v := (1)) hx hb dX10_keep_27 (by decide) ?_
    refine lv_iadd hx hb dX10_keep_28 ?_
    refine m_pV hx hb hown hk hH hF fk_RX10_curveCount lk_RX10_47 pd_9 rfl rfl dX10_keep_29 (fun ws H locs hH hF => ?_)
    refine lv_aload_n hx hb dX10_keep_32 rfl (lv_at hl 0 rfl) ?_
    refine m_gI hx hb hown hk hH hF fk_RX10_curveCount lk_RX10_47 dX10_keep_33 (fun v6 hF => ?_)
    refine lv_iconst (v := (1)) hx hb dX10_keep_36 (by decide) ?_
    refine lv_isub hx hb dX10_keep_37 ?_
    exact m_iret hx hb hr hlocks hH hE hF rfl dX10_keep_38
  · have hF := bq_f hc1 hF
    refine lv_bipush (v := (-2)) hx hb dX10_keep_9 (by decide) ?_
    exact m_iret hx hb hr hlocks hH hE hF rfl dX10_keep_11

def F_X10_line (o : Nat) (x1 : Int32) : St (Int32) :=
  bd (dr [9] (some o)) fun q2 => bd (F_X10_sensorNumbered q2.1 x1) fun c1 => br (c1 = none) (rt (-2 : Int32)) (bd (dr [9] (some o)) fun q5 => bd (F_X10_hasRoomFor q5.1 (1 : Int32)) fun c4 => br (c4 = 0) (rt (-2 : Int32)) (bd (dr [7] c1) fun q8 => bd (F_X8_hasTwoCounts q8.1) fun c7 => br (c7 = 0) (rt (-3 : Int32)) (bd (dr [7] c1) fun q11 => bd (F_X8_fitted q11.1) fun c10 => bd (dr [9] (some o)) fun q13 => bd (F_X10_keep q13.1 c10) fun c12 => rt c12)))
set_option maxHeartbeats 4000000 in
set_option maxRecDepth 100000 in
theorem t_X10_line (l : Launch) (D : va_G) (cy : Nat → ClassId) (z : Nat) (o : Nat) (x1 : Int32) : MT l D cy z yX10_line cX10_line 3 (some .int) 4 123 (F_X10_line o x1) vI [.ref o, .int x1] := by
  refine m_enter [(0, .ref o), (1, .int x1)] (by decide) (by first | rfl | simp [lv_args, m_cat, m_ci, m_cl, m_cf, m_cd, m_cr]) (by first | exact Nat.le_of_ble_eq_true rfl | simp [lg_sl, m_cat, m_ci, m_cl, m_cf, m_cd, m_cr]) ?_
  intro p e R s m args below meth c ws0 wsf rr cx hE ws H locs cells slots ls hl hH hF
  obtain ⟨hx, hb, hr, hml, hown, hk, hz, hlocks, hnm, hfr, hlo⟩ := id cx
  unfold F_X10_line at hF
  refine lv_aload_n hx hb dX10_line_0 rfl (lv_at hl 0 rfl) ?_
  refine lv_iload_n hx hb dX10_line_1 rfl (lv_at hl 1 rfl) ?_
  refine m_cVR hx hb hml hown hk hH hE.le hz (F := fun q2 => F_X10_sensorNumbered q2.1 x1) (C := RX10) (T := TX10) (N := 7) rfl (As := [.int x1]) (rest := []) (fun o => t_X10_sensorNumbered l D cy z o x1) hF wd_193 wd_195 wd_33 wd_196 wd_0 yn_X10_sensorNumbered ⟨Nat.le_trans (by decide) hfr, Nat.le_trans (by decide) hlo⟩ hl.1 (by first | exact Nat.le_of_ble_eq_true rfl | simp [m_cat, m_ci, m_cl, m_cf, m_cd, m_cr]) rfl dX10_line_2 (fun c1 ws H locs cells slots hH hF => ?_)
  refine m_astore_n (lv' := [(2, va_rf c1), (0, .ref o), (1, .int x1)]) hx hb dX10_line_5 rfl hl (by decide) (by first | rfl | simp [m_cat, m_ci, m_cl, m_cf, m_cd, m_cr]) (fun ls hl => ?_)
  refine m_aload_n hx hb dX10_line_6 rfl (lv_at hl 0 rfl) ?_
  refine m_ifnull (tgt := 18) hx hb dX10_line_7 (by decide) (fun hc2 => ?_) (fun hc2 => ?_)
  · have hF := bq_t hc2 hF
    refine lv_bipush (v := (-2)) hx hb dX10_line_18 (by decide) ?_
    exact m_iret hx hb hr hlocks hH hE hF rfl dX10_line_20
  · have hF := bq_f hc2 hF
    refine lv_aload_n hx hb dX10_line_10 rfl (lv_at hl 1 rfl) ?_
    refine lv_iconst (v := (1)) hx hb dX10_line_11 (by decide) ?_
    refine m_cVI hx hb hml hown hk hH hE.le hz (F := fun q5 => F_X10_hasRoomFor q5.1 (1 : Int32)) (C := RX10) (T := TX10) (N := 7) rfl (As := [.int (1 : Int32)]) (rest := []) (fun o => t_X10_hasRoomFor l D cy z o (1 : Int32)) hF wd_227 wd_229 wd_33 wd_230 wd_1 yn_X10_hasRoomFor ⟨Nat.le_trans (by decide) hfr, Nat.le_trans (by decide) hlo⟩ hl.1 (by first | exact Nat.le_of_ble_eq_true rfl | simp [m_cat, m_ci, m_cl, m_cf, m_cd, m_cr]) rfl dX10_line_12 (fun c4 ws H locs cells slots hH hF => ?_)
    refine lv_if_ne (tgt := 21) hx hb dX10_line_15 (by decide) (fun hc5 => ?_) (fun hc5 => ?_)
    · have hF := bq_f hc5 hF
      refine m_aload_n hx hb dX10_line_21 rfl (lv_at hl 0 rfl) ?_
      refine m_cVI hx hb hml hown hk hH hE.le hz (F := fun q8 => F_X8_hasTwoCounts q8.1) (C := RX8) (T := TX8) (N := 4) rfl (As := []) (rest := []) (fun o => t_X8_hasTwoCounts l D cy z o) hF wd_231 wd_232 wd_36 wd_234 wd_233 yn_X8_hasTwoCounts ⟨Nat.le_trans (by decide) hfr, Nat.le_trans (by decide) hlo⟩ hl.1 (by first | exact Nat.le_of_ble_eq_true rfl | simp [m_cat, m_ci, m_cl, m_cf, m_cd, m_cr]) rfl dX10_line_22 (fun c7 ws H locs cells slots hH hF => ?_)
      refine lv_if_ne (tgt := 31) hx hb dX10_line_25 (by decide) (fun hc8 => ?_) (fun hc8 => ?_)
      · have hF := bq_f hc8 hF
        refine lv_aload_n hx hb dX10_line_31 rfl (lv_at hl 1 rfl) ?_
        refine m_aload_n hx hb dX10_line_32 rfl (lv_at hl 0 rfl) ?_
        refine m_cVR hx hb hml hown hk hH hE.le hz (F := fun q11 => F_X8_fitted q11.1) (C := RX8) (T := TX8) (N := 4) rfl (As := []) (rest := [.ref o]) (fun o => t_X8_fitted l D cy z o) hF wd_235 wd_236 wd_36 wd_238 wd_237 yn_X8_fitted ⟨Nat.le_trans (by decide) hfr, Nat.le_trans (by decide) hlo⟩ hl.1 (by first | exact Nat.le_of_ble_eq_true rfl | simp [m_cat, m_ci, m_cl, m_cf, m_cd, m_cr]) rfl dX10_line_33 (fun c10 ws H locs cells slots hH hF => ?_)
        refine m_cVI hx hb hml hown hk hH hE.le hz (F := fun q13 => F_X10_keep q13.1 c10) (C := RX10) (T := TX10) (N := 7) rfl (As := [va_rf c10]) (rest := []) (fun o => t_X10_keep l D cy z o c10) hF wd_273 wd_275 wd_33 wd_276 wd_2 yn_X10_keep ⟨Nat.le_trans (by decide) hfr, Nat.le_trans (by decide) hlo⟩ hl.1 (by first | exact Nat.le_of_ble_eq_true rfl | simp [m_cat, m_ci, m_cl, m_cf, m_cd, m_cr]) rfl dX10_line_36 (fun c12 ws H locs cells slots hH hF => ?_)
        exact m_iret hx hb hr hlocks hH hE hF rfl dX10_line_39
      · have hF := bq_t hc8 hF
        refine lv_bipush (v := (-3)) hx hb dX10_line_28 (by decide) ?_
        exact m_iret hx hb hr hlocks hH hE hF rfl dX10_line_30
    · have hF := bq_t hc5 hF
      refine lv_bipush (v := (-2)) hx hb dX10_line_18 (by decide) ?_
      exact m_iret hx hb hr hlocks hH hE hF rfl dX10_line_20

def F_X10_knot (o : Nat) (x1 : Int32) (x2 : Int32) : St (Int32) :=
  bd (F_X10_isCount x1) fun c1 => br (c1 = 0) (rt (-2 : Int32)) (bd (gR [9] 5 (some o)) fun v3 => bd (dr [2] v3) fun q5 => bd (F_X3_lastCount q5.1) fun c4 => br (x1 ≤ c4) (rt (-2 : Int32)) (bd (F_X10_isWithin x2 (10000 : Int32)) fun c7 => br (c7 = 0) (rt (-2 : Int32)) (bd (gR [9] 5 (some o)) fun v9 => bd (gI [2] 2 v9) fun v10 => br (v10 < (32 : Int32)) (bd (gR [9] 5 (some o)) fun v12 => bd (dr [2] v12) fun q14 => bd (F_X3_add q14.1 x1 x2) fun c13 => bd (gR [9] 5 (some o)) fun v15 => bd (gI [2] 2 v15) fun v16 => rt v16) (rt (-2 : Int32)))))
set_option maxHeartbeats 4000000 in
set_option maxRecDepth 100000 in
theorem t_X10_knot (l : Launch) (D : va_G) (cy : Nat → ClassId) (z : Nat) (o : Nat) (x1 : Int32) (x2 : Int32) : MT l D cy z yX10_knot cX10_knot 3 (some .int) 1 40 (F_X10_knot o x1 x2) vI [.ref o, .int x1, .int x2] := by
  refine m_enter [(0, .ref o), (1, .int x1), (2, .int x2)] (by decide) (by first | rfl | simp [lv_args, m_cat, m_ci, m_cl, m_cf, m_cd, m_cr]) (by first | exact Nat.le_of_ble_eq_true rfl | simp [lg_sl, m_cat, m_ci, m_cl, m_cf, m_cd, m_cr]) ?_
  intro p e R s m args below meth c ws0 wsf rr cx hE ws H locs cells slots ls hl hH hF
  obtain ⟨hx, hb, hr, hml, hown, hk, hz, hlocks, hnm, hfr, hlo⟩ := id cx
  unfold F_X10_knot at hF
  refine lv_iload_n hx hb dX10_knot_0 rfl (lv_at hl 1 rfl) ?_
  refine m_cSI hx hb hml hown hk hH hE.le hz (As := [.int x1]) (rest := []) (t_X10_isCount l D cy z x1) hF wd_197 wd_198 wd_33 wd_199 yn_X10_isCount ⟨Nat.le_trans (by decide) hfr, Nat.le_trans (by decide) hlo⟩ hl.1 (by first | exact Nat.le_of_ble_eq_true rfl | simp [m_cat, m_ci, m_cl, m_cf, m_cd, m_cr]) rfl dX10_knot_1 (fun c1 ws H locs cells slots hH hF => ?_)
  refine lv_if_eq (tgt := 28) hx hb dX10_knot_4 (by decide) (fun hc1 => ?_) (fun hc1 => ?_)
  · have hF := bq_t hc1 hF
    refine lv_bipush (v := (-2)) hx hb dX10_knot_28 (by decide) ?_
    exact m_iret hx hb hr hlocks hH hE hF rfl dX10_knot_30
  · have hF := bq_f hc1 hF
    refine lv_iload_n hx hb dX10_knot_7 rfl (lv_at hl 1 rfl) ?_
    refine lv_aload_n hx hb dX10_knot_8 rfl (lv_at hl 0 rfl) ?_
    refine m_gR hx hb hown hk hH hF fk_RX10_told lk_RX10_43 dX10_knot_9 (fun v3 hF => ?_)
    refine m_cVI hx hb hml hown hk hH hE.le hz (F := fun q5 => F_X3_lastCount q5.1) (C := RX3) (T := TX3) (N := 3) rfl (As := []) (rest := [.int x1]) (fun o => t_X3_lastCount l D cy z o) hF wd_281 wd_282 wd_35 wd_284 wd_283 yn_X3_lastCount ⟨Nat.le_trans (by decide) hfr, Nat.le_trans (by decide) hlo⟩ hl.1 (by first | exact Nat.le_of_ble_eq_true rfl | simp [m_cat, m_ci, m_cl, m_cf, m_cd, m_cr]) rfl dX10_knot_12 (fun c4 ws H locs cells slots hH hF => ?_)
    refine lv_icmp_le (tgt := 28) hx hb dX10_knot_15 (by decide) (fun hc5 => ?_) (fun hc5 => ?_)
    · have hF := bq_t hc5 hF
      refine lv_bipush (v := (-2)) hx hb dX10_knot_28 (by decide) ?_
      exact m_iret hx hb hr hlocks hH hE hF rfl dX10_knot_30
    · have hF := bq_f hc5 hF
      refine lv_iload_n hx hb dX10_knot_18 rfl (lv_at hl 2 rfl) ?_
      refine lv_sipush (v := (10000)) hx hb dX10_knot_19 (by decide) ?_
      refine m_cSI hx hb hml hown hk hH hE.le hz (As := [.int x2, .int (10000 : Int32)]) (rest := []) (t_X10_isWithin l D cy z x2 (10000 : Int32)) hF wd_200 wd_201 wd_33 wd_202 yn_X10_isWithin ⟨Nat.le_trans (by decide) hfr, Nat.le_trans (by decide) hlo⟩ hl.1 (by first | exact Nat.le_of_ble_eq_true rfl | simp [m_cat, m_ci, m_cl, m_cf, m_cd, m_cr]) rfl dX10_knot_22 (fun c7 ws H locs cells slots hH hF => ?_)
      refine lv_if_ne (tgt := 31) hx hb dX10_knot_25 (by decide) (fun hc7 => ?_) (fun hc7 => ?_)
      · have hF := bq_f hc7 hF
        refine lv_aload_n hx hb dX10_knot_31 rfl (lv_at hl 0 rfl) ?_
        refine m_gR hx hb hown hk hH hF fk_RX10_told lk_RX10_43 dX10_knot_32 (fun v9 hF => ?_)
        refine m_gI hx hb hown hk hH hF fk_RX3_size lk_RX10_98 dX10_knot_35 (fun v10 hF => ?_)
        refine lv_bipush (v := (32)) hx hb dX10_knot_38 (by decide) ?_
        refine lv_icmp_lt (tgt := 46) hx hb dX10_knot_40 (by decide) (fun hc10 => ?_) (fun hc10 => ?_)
        · have hF := bq_t hc10 hF
          refine lv_aload_n hx hb dX10_knot_46 rfl (lv_at hl 0 rfl) ?_
          refine m_gR hx hb hown hk hH hF fk_RX10_told lk_RX10_43 dX10_knot_47 (fun v12 hF => ?_)
          refine lv_iload_n hx hb dX10_knot_50 rfl (lv_at hl 1 rfl) ?_
          refine lv_iload_n hx hb dX10_knot_51 rfl (lv_at hl 2 rfl) ?_
          refine m_cVU hx hb hml hown hk hH hE.le hz (F := fun q14 => F_X3_add q14.1 x1 x2) (C := RX3) (T := TX3) (N := 3) rfl (As := [.int x1, .int x2]) (rest := []) (fun o => t_X3_add l D cy z o x1 x2) hF wd_285 wd_286 wd_35 wd_288 wd_287 yn_X3_add ⟨Nat.le_trans (by decide) hfr, Nat.le_trans (by decide) hlo⟩ hl.1 (by first | exact Nat.le_of_ble_eq_true rfl | simp [m_cat, m_ci, m_cl, m_cf, m_cd, m_cr]) rfl dX10_knot_52 (fun c13 ws H locs cells slots hH hF => ?_)
          refine lv_aload_n hx hb dX10_knot_55 rfl (lv_at hl 0 rfl) ?_
          refine m_gR hx hb hown hk hH hF fk_RX10_told lk_RX10_43 dX10_knot_56 (fun v15 hF => ?_)
          refine m_gI hx hb hown hk hH hF fk_RX3_size lk_RX10_98 dX10_knot_59 (fun v16 hF => ?_)
          exact m_iret hx hb hr hlocks hH hE hF rfl dX10_knot_62
        · have hF := bq_f hc10 hF
          refine lv_bipush (v := (-2)) hx hb dX10_knot_43 (by decide) ?_
          exact m_iret hx hb hr hlocks hH hE hF rfl dX10_knot_45
      · have hF := bq_t hc7 hF
        refine lv_bipush (v := (-2)) hx hb dX10_knot_28 (by decide) ?_
        exact m_iret hx hb hr hlocks hH hE hF rfl dX10_knot_30

def F_X10_hush (o : Nat) : St (Int32) :=
  bd (gR [9] 5 (some o)) fun v1 => bd (gI [2] 2 v1) fun v2 => bd (gR [9] 5 (some o)) fun v3 => bd (pV [2] 2 v3 (.int (0 : Int32))) fun _ => rt v2
set_option maxHeartbeats 4000000 in
set_option maxRecDepth 100000 in
theorem t_X10_hush (l : Launch) (D : va_G) (cy : Nat → ClassId) (z : Nat) (o : Nat) : MT l D cy z yX10_hush cX10_hush 2 (some .int) 0 0 (F_X10_hush o) vI [.ref o] := by
  refine m_enter [(0, .ref o)] (by decide) (by first | rfl | simp [lv_args, m_cat, m_ci, m_cl, m_cf, m_cd, m_cr]) (by first | exact Nat.le_of_ble_eq_true rfl | simp [lg_sl, m_cat, m_ci, m_cl, m_cf, m_cd, m_cr]) ?_
  intro p e R s m args below meth c ws0 wsf rr cx hE ws H locs cells slots ls hl hH hF
  obtain ⟨hx, hb, hr, hml, hown, hk, hz, hlocks, hnm, hfr, hlo⟩ := id cx
  unfold F_X10_hush at hF
  refine lv_aload_n hx hb dX10_hush_0 rfl (lv_at hl 0 rfl) ?_
  refine m_gR hx hb hown hk hH hF fk_RX10_told lk_RX10_43 dX10_hush_1 (fun v1 hF => ?_)
  refine m_gI hx hb hown hk hH hF fk_RX3_size lk_RX10_98 dX10_hush_4 (fun v2 hF => ?_)
  refine lv_istore_n (lv' := [(1, .int v2), (0, .ref o)]) hx hb dX10_hush_7 rfl hl (by decide) (by first | rfl | simp [m_cat, m_ci, m_cl, m_cf, m_cd, m_cr]) (fun ls hl => ?_)
  refine lv_aload_n hx hb dX10_hush_8 rfl (lv_at hl 1 rfl) ?_
  refine m_gR hx hb hown hk hH hF fk_RX10_told lk_RX10_43 dX10_hush_9 (fun v3 hF => ?_)
  refine lv_iconst (v := (0)) hx hb dX10_hush_12 (by decide) ?_
  refine m_pV hx hb hown hk hH hF fk_RX3_size lk_RX10_98 pd_9 rfl rfl dX10_hush_13 (fun ws H locs hH hF => ?_)
  refine lv_iload_n hx hb dX10_hush_16 rfl (lv_at hl 0 rfl) ?_
  exact m_iret hx hb hr hlocks hH hE hF rfl dX10_hush_17
