def j_X2_firstNotBelow_51 (rec : Int32 → Int32 → St (Int32)) (k : Int32 → St (Int32)) (x0 : Nat) (x1 : Int64) (x3 : Int64) (x5 : Int32) (x6 : Int32) : St (Int32) :=
  bd (rt (x6 / (2 : Int32))) fun v3 => rec x5 v3
def b_X2_firstNotBelow_8 (x0 : Nat) (x1 : Int64) (x3 : Int64) (rec : Int32 → Int32 → St (Int32)) (k : Int32 → St (Int32)) (x5 : Int32) (x6 : Int32) : St (Int32) :=
  br (x6 ≤ 0) (k x5) (br ((4096 : Int32) < (x5 + x6)) (j_X2_firstNotBelow_51 rec k x0 x1 x3 x5 x6) (bd (gR [1] 0 (some x0)) fun v4 => bd (aI 0 v4 ((x5 + x6) - (1 : Int32))) fun v5 => br (0 ≤ (lg_cmp (x3 * v5.toInt64) x1)) (j_X2_firstNotBelow_51 rec k x0 x1 x3 x5 x6) (bd (rt (x5 + x6)) fun v7 => j_X2_firstNotBelow_51 rec k x0 x1 x3 v7 x6)))
def l_X2_firstNotBelow_8 (x0 : Nat) (x1 : Int64) (x3 : Int64) (k : Int32 → St (Int32)) : Nat → Int32 → Int32 → St (Int32)
  | 0 => fun _ _ => fl
  | n + 1 => fun x5 x6 => b_X2_firstNotBelow_8 x0 x1 x3 (l_X2_firstNotBelow_8 x0 x1 x3 k n) k x5 x6
def F_X2_firstNotBelow (o : Nat) (x1 : Int64) (x3 : Int64) : St (Int32) :=
  l_X2_firstNotBelow_8 o x1 x3 (fun (e8 : Int32) => rt e8) FU (0 : Int32) (4096 : Int32)
set_option maxHeartbeats 4000000 in
set_option maxRecDepth 100000 in
theorem w_X2_firstNotBelow_51 {l : Launch} {D : va_G} {cy : Nat → ClassId} {z : Nat} {p : Program} {e : Env} {R : Room} {s : State} {m : MethodId} {args : Array Value} {below : List Frame} {meth : Method} {c : Code} {ws0 wsf : WS} {rr : Int32} (cx : Cx D cy z RX2 cX2_firstNotBelow 7 (some .int) 0 0 "firstNotBelow" p R s m meth c) (hE : AC ws0 wsf R.cells R.slots) (rec : Int32 → Int32 → St (Int32)) (k : Int32 → St (Int32)) (x0 : Nat) (x1 : Int64) (x3 : Int64) (hrec : ∀ (x5 : Int32) (x6 : Int32), At_ l D cy z p e R s m args below meth c ws0 wsf vI rr 7 8 [(0, .ref x0), (1, .long x1), (3, .long x3), (5, .int x5), (6, .int x6)] [] (rec x5 x6)) (hkk : ∀ (x5 : Int32), At_ l D cy z p e R s m args below meth c ws0 wsf vI rr 7 60 [(5, .int x5)] [] (k x5)) (x5 : Int32) (x6 : Int32) : At_ l D cy z p e R s m args below meth c ws0 wsf vI rr 7 51 [(0, .ref x0), (1, .long x1), (3, .long x3), (5, .int x5), (6, .int x6)] [] (j_X2_firstNotBelow_51 rec k x0 x1 x3 x5 x6) := by
  intro ws H locs cells slots ls hl hH hF
  obtain ⟨hx, hb, hr, hml, hown, hk, hz, hlocks, hnm, hfr, hlo⟩ := id cx
  unfold j_X2_firstNotBelow_51 at hF
  refine lv_iload hx hb dX2_firstNotBelow_51 (lv_at hl 4 rfl) ?_
  refine lv_iconst (v := (2)) hx hb dX2_firstNotBelow_53 (by decide) ?_
  refine lv_idiv hx hb dX2_firstNotBelow_54 (by decide) ?_
  refine lv_topi (fun v3 hv3 => ?_)
  have hF := rt_t hv3 hF
  refine lv_istore (lv' := [(6, .int v3), (0, .ref x0), (1, .long x1), (3, .long x3), (5, .int x5)]) hx hb dX2_firstNotBelow_55 hl (by decide) (by first | rfl | simp [m_cat, m_ci, m_cl, m_cf, m_cd, m_cr]) (fun ls hl => ?_)
  refine lv_goto (tgt := 8) hx hb dX2_firstNotBelow_57 (by decide) ?_
  exact hrec _ _ _ _ _ _ _ _ (lv_sub hl [1, 2, 3, 4, 0] rfl) hH hF
set_option maxHeartbeats 4000000 in
set_option maxRecDepth 100000 in
theorem wb_X2_firstNotBelow_8 {l : Launch} {D : va_G} {cy : Nat → ClassId} {z : Nat} {p : Program} {e : Env} {R : Room} {s : State} {m : MethodId} {args : Array Value} {below : List Frame} {meth : Method} {c : Code} {ws0 wsf : WS} {rr : Int32} (cx : Cx D cy z RX2 cX2_firstNotBelow 7 (some .int) 0 0 "firstNotBelow" p R s m meth c) (hE : AC ws0 wsf R.cells R.slots) (x0 : Nat) (x1 : Int64) (x3 : Int64) (rec : Int32 → Int32 → St (Int32)) (k : Int32 → St (Int32)) (hrec : ∀ (x5 : Int32) (x6 : Int32), At_ l D cy z p e R s m args below meth c ws0 wsf vI rr 7 8 [(0, .ref x0), (1, .long x1), (3, .long x3), (5, .int x5), (6, .int x6)] [] (rec x5 x6)) (hkk : ∀ (x5 : Int32), At_ l D cy z p e R s m args below meth c ws0 wsf vI rr 7 60 [(5, .int x5)] [] (k x5)) (x5 : Int32) (x6 : Int32) : At_ l D cy z p e R s m args below meth c ws0 wsf vI rr 7 8 [(0, .ref x0), (1, .long x1), (3, .long x3), (5, .int x5), (6, .int x6)] [] (b_X2_firstNotBelow_8 x0 x1 x3 rec k x5 x6) := by
  intro ws H locs cells slots ls hl hH hF
  obtain ⟨hx, hb, hr, hml, hown, hk, hz, hlocks, hnm, hfr, hlo⟩ := id cx
  unfold b_X2_firstNotBelow_8 at hF
  refine lv_iload hx hb dX2_firstNotBelow_8 (lv_at hl 4 rfl) ?_
  refine lv_if_le (tgt := 60) hx hb dX2_firstNotBelow_10 (by decide) (fun hc0 => ?_) (fun hc0 => ?_)
  · have hF := bq_t hc0 hF
    exact hkk _ _ _ _ _ _ _ (lv_sub hl [3] rfl) hH hF
  · have hF := bq_f hc0 hF
    refine lv_iload hx hb dX2_firstNotBelow_13 (lv_at hl 3 rfl) ?_
    refine lv_iload hx hb dX2_firstNotBelow_15 (lv_at hl 4 rfl) ?_
    refine lv_iadd hx hb dX2_firstNotBelow_17 ?_
    refine lv_sipush (v := (4096)) hx hb dX2_firstNotBelow_18 (by decide) ?_
    refine lv_icmp_gt (tgt := 51) hx hb dX2_firstNotBelow_21 (by decide) (fun hc1 => ?_) (fun hc1 => ?_)
    · have hF := bq_t hc1 hF
      exact w_X2_firstNotBelow_51 cx hE _ _ x0 x1 x3 hrec hkk x5 x6 _ _ _ _ _ _ (lv_sub hl [0, 1, 2, 3, 4] rfl) hH hF
    · have hF := bq_f hc1 hF
      refine lv_lload_n hx hb dX2_firstNotBelow_24 rfl (lv_at hl 2 rfl) ?_
      refine lv_aload_n hx hb dX2_firstNotBelow_25 rfl (lv_at hl 0 rfl) ?_
      refine m_gR hx hb hown hk hH hF fk_RX2_row lk_RX2_24 dX2_firstNotBelow_26 (fun v4 hF => ?_)
      refine lv_iload hx hb dX2_firstNotBelow_29 (lv_at hl 3 rfl) ?_
      refine lv_iload hx hb dX2_firstNotBelow_31 (lv_at hl 4 rfl) ?_
      refine lv_iadd hx hb dX2_firstNotBelow_33 ?_
      refine lv_iconst (v := (1)) hx hb dX2_firstNotBelow_34 (by decide) ?_
      refine lv_isub hx hb dX2_firstNotBelow_35 ?_
      refine m_aI0 hx hb hk hH hF dX2_firstNotBelow_36 (fun v5 hF => ?_)
      refine lv_i2l hx hb dX2_firstNotBelow_37 rfl ?_
      refine lv_lmul hx hb dX2_firstNotBelow_38 ?_
      refine lv_lload_n hx hb dX2_firstNotBelow_39 rfl (lv_at hl 1 rfl) ?_
      refine W.lcmp hx hb dX2_firstNotBelow_40 ?_
      refine lv_if_ge (tgt := 51) hx hb dX2_firstNotBelow_41 (by decide) (fun hc5 => ?_) (fun hc5 => ?_)
      · have hF := bq_t hc5 hF
        exact w_X2_firstNotBelow_51 cx hE _ _ x0 x1 x3 hrec hkk x5 x6 _ _ _ _ _ _ (lv_sub hl [0, 1, 2, 3, 4] rfl) hH hF
      · have hF := bq_f hc5 hF
        refine lv_iload hx hb dX2_firstNotBelow_44 (lv_at hl 3 rfl) ?_
        refine lv_iload hx hb dX2_firstNotBelow_46 (lv_at hl 4 rfl) ?_
        refine lv_iadd hx hb dX2_firstNotBelow_48 ?_
        refine lv_topi (fun v7 hv7 => ?_)
        have hF := rt_t hv7 hF
        refine lv_istore (lv' := [(5, .int v7), (0, .ref x0), (1, .long x1), (3, .long x3), (6, .int x6)]) hx hb dX2_firstNotBelow_49 hl (by decide) (by first | rfl | simp [m_cat, m_ci, m_cl, m_cf, m_cd, m_cr]) (fun ls hl => ?_)
        exact w_X2_firstNotBelow_51 cx hE _ _ x0 x1 x3 hrec hkk v7 x6 _ _ _ _ _ _ (lv_sub hl [1, 2, 3, 0, 4] rfl) hH hF
theorem w_X2_firstNotBelow_8 {l : Launch} {D : va_G} {cy : Nat → ClassId} {z : Nat} {p : Program} {e : Env} {R : Room} {s : State} {m : MethodId} {args : Array Value} {below : List Frame} {meth : Method} {c : Code} {ws0 wsf : WS} {rr : Int32} (cx : Cx D cy z RX2 cX2_firstNotBelow 7 (some .int) 0 0 "firstNotBelow" p R s m meth c) (hE : AC ws0 wsf R.cells R.slots) (x0 : Nat) (x1 : Int64) (x3 : Int64) (k : Int32 → St (Int32)) (hkk : ∀ (x5 : Int32), At_ l D cy z p e R s m args below meth c ws0 wsf vI rr 7 60 [(5, .int x5)] [] (k x5)) : ∀ (n : Nat) (x5 : Int32) (x6 : Int32), At_ l D cy z p e R s m args below meth c ws0 wsf vI rr 7 8 [(0, .ref x0), (1, .long x1), (3, .long x3), (5, .int x5), (6, .int x6)] [] (l_X2_firstNotBelow_8 x0 x1 x3 k n x5 x6) := by
  intro n
  induction n with
  | zero =>
    intro x5 x6 ws H locs cells slots ls hl hH hF
    exact fl_t hF
  | succ n ih =>
    intro x5 x6
    exact wb_X2_firstNotBelow_8 cx hE x0 x1 x3 (l_X2_firstNotBelow_8 x0 x1 x3 k n) k ih hkk x5 x6
set_option maxHeartbeats 4000000 in
set_option maxRecDepth 100000 in
theorem t_X2_firstNotBelow (l : Launch) (D : va_G) (cy : Nat → ClassId) (z : Nat) (o : Nat) (x1 : Int64) (x3 : Int64) : MT l D cy z yX2_firstNotBelow cX2_firstNotBelow 7 (some .int) 0 0 (F_X2_firstNotBelow o x1 x3) vI [.ref o, .long x1, .long x3] := by
  refine m_enter [(0, .ref o), (1, .long x1), (3, .long x3)] (by decide) (by first | rfl | simp [lv_args, m_cat, m_ci, m_cl, m_cf, m_cd, m_cr]) (by first | exact Nat.le_of_ble_eq_true rfl | simp [lg_sl, m_cat, m_ci, m_cl, m_cf, m_cd, m_cr]) ?_
  intro p e R s m args below meth c ws0 wsf rr cx hE ws H locs cells slots ls hl hH hF
  obtain ⟨hx, hb, hr, hml, hown, hk, hz, hlocks, hnm, hfr, hlo⟩ := id cx
  unfold F_X2_firstNotBelow at hF
  refine lv_iconst (v := (0)) hx hb dX2_firstNotBelow_0 (by decide) ?_
  refine lv_istore (lv' := [(5, .int (0 : Int32)), (0, .ref o), (1, .long x1), (3, .long x3)]) hx hb dX2_firstNotBelow_1 hl (by decide) (by first | rfl | simp [m_cat, m_ci, m_cl, m_cf, m_cd, m_cr]) (fun ls hl => ?_)
  refine lv_sipush (v := (4096)) hx hb dX2_firstNotBelow_3 (by decide) ?_
  refine lv_istore (lv' := [(6, .int (4096 : Int32)), (5, .int (0 : Int32)), (0, .ref o), (1, .long x1), (3, .long x3)]) hx hb dX2_firstNotBelow_6 hl (by decide) (by first | rfl | simp [m_cat, m_ci, m_cl, m_cf, m_cd, m_cr]) (fun ls hl => ?_)
  refine w_X2_firstNotBelow_8 cx hE o x1 x3 _ (fun e8 ws H locs cells slots ls hl hH hF => ?_) _ _ _ _ _ _ _ _ _ (lv_sub hl [2, 3, 4, 1, 0] rfl) hH hF
  refine lv_iload hx hb dX2_firstNotBelow_60 (lv_at hl 0 rfl) ?_
  exact m_iret hx hb hr hlocks hH hE hF rfl dX2_firstNotBelow_62

def j_X2_nearestTo_94 (x0 : Nat) (x2 : Int64) (x7 : Int64) : St (Int32) :=
  bd (dr [1] (some x0)) fun q14 => bd (F_X2_firstNotBelow q14.1 x7 x2) fun c13 => rt c13
def j_X2_nearestTo_24 (x0 : Nat) (x1 : Int32) (s0 : Int64) : St (Int32) :=
  bd (rt (s0 * x1.toInt64)) fun v5 => bd (dr [1] (some x0)) fun q7 => bd (F_X2_firstNotBelow q7.1 v5 s0) fun c6 => br (c6 = 0) (rt (0 : Int32)) (bd (gR [1] 0 (some x0)) fun v9 => bd (aI 0 v9 (c6 - (1 : Int32))) fun v10 => bd (rt (s0 * v10.toInt64)) fun v11 => br ((4096 : Int32) ≤ c6) (j_X2_nearestTo_94 x0 s0 v11) (bd (gR [1] 0 (some x0)) fun v15 => bd (aI 0 v15 c6) fun v16 => br (0 ≤ (lg_cmp ((s0 * v16.toInt64) - v5) (v5 - v11))) (j_X2_nearestTo_94 x0 s0 v11) (rt c6)))
def F_X2_nearestTo (o : Nat) (x1 : Int32) : St (Int32) :=
  bd (gI [1] 1 (some o)) fun v1 => br (v1 = 0) (rt (-1 : Int32)) (bd (gI [1] 1 (some o)) fun v3 => br (v3 = (-1 : Int32)) (j_X2_nearestTo_24 o x1 (-1 : Int64)) (j_X2_nearestTo_24 o x1 (1 : Int64)))
set_option maxHeartbeats 4000000 in
set_option maxRecDepth 100000 in
theorem w_X2_nearestTo_94 {l : Launch} {D : va_G} {cy : Nat → ClassId} {z : Nat} {p : Program} {e : Env} {R : Room} {s : State} {m : MethodId} {args : Array Value} {below : List Frame} {meth : Method} {c : Code} {ws0 wsf : WS} {rr : Int32} (cx : Cx D cy z RX2 cX2_nearestTo 9 (some .int) 1 40 "nearestTo" p R s m meth c) (hE : AC ws0 wsf R.cells R.slots) (x0 : Nat) (x2 : Int64) (x7 : Int64) : At_ l D cy z p e R s m args below meth c ws0 wsf vI rr 9 94 [(0, .ref x0), (2, .long x2), (7, .long x7)] [] (j_X2_nearestTo_94 x0 x2 x7) := by
  intro ws H locs cells slots ls hl hH hF
  obtain ⟨hx, hb, hr, hml, hown, hk, hz, hlocks, hnm, hfr, hlo⟩ := id cx
  unfold j_X2_nearestTo_94 at hF
  refine lv_aload_n hx hb dX2_nearestTo_94 rfl (lv_at hl 0 rfl) ?_
  refine lv_lload hx hb dX2_nearestTo_95 (lv_at hl 2 rfl) ?_
  refine lv_lload_n hx hb dX2_nearestTo_97 rfl (lv_at hl 1 rfl) ?_
  refine m_cVI hx hb hml hown hk hH hE.le hz (F := fun q14 => F_X2_firstNotBelow q14.1 x7 x2) (C := RX2) (T := TX2) (N := 6) rfl (As := [.long x7, .long x2]) (rest := []) (fun o => t_X2_firstNotBelow l D cy z o x7 x2) hF wd_533 wd_535 wd_44 wd_536 wd_7 yn_X2_firstNotBelow ⟨Nat.le_trans (by decide) hfr, Nat.le_trans (by decide) hlo⟩ hl.1 (by first | exact Nat.le_of_ble_eq_true rfl | simp [m_cat, m_ci, m_cl, m_cf, m_cd, m_cr]) rfl dX2_nearestTo_98 (fun c13 ws H locs cells slots hH hF => ?_)
  exact m_iret hx hb hr hlocks hH hE hF rfl dX2_nearestTo_101
set_option maxHeartbeats 4000000 in
set_option maxRecDepth 100000 in
theorem w_X2_nearestTo_24 {l : Launch} {D : va_G} {cy : Nat → ClassId} {z : Nat} {p : Program} {e : Env} {R : Room} {s : State} {m : MethodId} {args : Array Value} {below : List Frame} {meth : Method} {c : Code} {ws0 wsf : WS} {rr : Int32} (cx : Cx D cy z RX2 cX2_nearestTo 9 (some .int) 1 40 "nearestTo" p R s m meth c) (hE : AC ws0 wsf R.cells R.slots) (x0 : Nat) (x1 : Int32) (s0 : Int64) : At_ l D cy z p e R s m args below meth c ws0 wsf vI rr 9 24 [(0, .ref x0), (1, .int x1)] [.long s0] (j_X2_nearestTo_24 x0 x1 s0) := by
  intro ws H locs cells slots ls hl hH hF
  obtain ⟨hx, hb, hr, hml, hown, hk, hz, hlocks, hnm, hfr, hlo⟩ := id cx
  unfold j_X2_nearestTo_24 at hF
  refine lv_lstore_n (lv' := [(2, .long s0), (0, .ref x0), (1, .int x1)]) hx hb dX2_nearestTo_24 rfl hl (by decide) (by first | rfl | simp [m_cat, m_ci, m_cl, m_cf, m_cd, m_cr]) (fun ls hl => ?_)
  refine lv_lload_n hx hb dX2_nearestTo_25 rfl (lv_at hl 0 rfl) ?_
  refine lv_iload_n hx hb dX2_nearestTo_26 rfl (lv_at hl 2 rfl) ?_
  refine lv_i2l hx hb dX2_nearestTo_27 rfl ?_
  refine lv_lmul hx hb dX2_nearestTo_28 ?_
  refine lv_topl (fun v5 hv5 => ?_)
  have hF := rt_t hv5 hF
  refine lv_lstore (lv' := [(4, .long v5), (2, .long s0), (0, .ref x0), (1, .int x1)]) hx hb dX2_nearestTo_29 hl (by decide) (by first | rfl | simp [m_cat, m_ci, m_cl, m_cf, m_cd, m_cr]) (fun ls hl => ?_)
  refine lv_aload_n hx hb dX2_nearestTo_31 rfl (lv_at hl 2 rfl) ?_
  refine lv_lload hx hb dX2_nearestTo_32 (lv_at hl 0 rfl) ?_
  refine lv_lload_n hx hb dX2_nearestTo_34 rfl (lv_at hl 1 rfl) ?_
  refine m_cVI hx hb hml hown hk hH hE.le hz (F := fun q7 => F_X2_firstNotBelow q7.1 v5 s0) (C := RX2) (T := TX2) (N := 6) rfl (As := [.long v5, .long s0]) (rest := []) (fun o => t_X2_firstNotBelow l D cy z o v5 s0) hF wd_533 wd_535 wd_44 wd_536 wd_7 yn_X2_firstNotBelow ⟨Nat.le_trans (by decide) hfr, Nat.le_trans (by decide) hlo⟩ hl.1 (by first | exact Nat.le_of_ble_eq_true rfl | simp [m_cat, m_ci, m_cl, m_cf, m_cd, m_cr]) rfl dX2_nearestTo_35 (fun c6 ws H locs cells slots hH hF => ?_)
  refine lv_istore (lv' := [(6, .int c6), (4, .long v5), (2, .long s0), (0, .ref x0), (1, .int x1)]) hx hb dX2_nearestTo_38 hl (by decide) (by first | rfl | simp [m_cat, m_ci, m_cl, m_cf, m_cd, m_cr]) (fun ls hl => ?_)
  refine lv_iload hx hb dX2_nearestTo_40 (lv_at hl 0 rfl) ?_
  refine lv_if_ne (tgt := 47) hx hb dX2_nearestTo_42 (by decide) (fun hc7 => ?_) (fun hc7 => ?_)
  · have hF := bq_f hc7 hF
    refine lv_lload_n hx hb dX2_nearestTo_47 rfl (lv_at hl 2 rfl) ?_
    refine lv_aload_n hx hb dX2_nearestTo_48 rfl (lv_at hl 3 rfl) ?_
    refine m_gR hx hb hown hk hH hF fk_RX2_row lk_RX2_24 dX2_nearestTo_49 (fun v9 hF => ?_)
    refine lv_iload hx hb dX2_nearestTo_52 (lv_at hl 0 rfl) ?_
    refine lv_iconst (v := (1)) hx hb dX2_nearestTo_54 (by decide) ?_
    refine lv_isub hx hb dX2_nearestTo_55 ?_
    refine m_aI0 hx hb hk hH hF dX2_nearestTo_56 (fun v10 hF => ?_)
    refine lv_i2l hx hb dX2_nearestTo_57 rfl ?_
    refine lv_lmul hx hb dX2_nearestTo_58 ?_
    refine lv_topl (fun v11 hv11 => ?_)
    have hF := rt_t hv11 hF
    refine lv_lstore (lv' := [(7, .long v11), (6, .int c6), (4, .long v5), (2, .long s0), (0, .ref x0), (1, .int x1)]) hx hb dX2_nearestTo_59 hl (by decide) (by first | rfl | simp [m_cat, m_ci, m_cl, m_cf, m_cd, m_cr]) (fun ls hl => ?_)
    refine lv_iload hx hb dX2_nearestTo_61 (lv_at hl 1 rfl) ?_
    refine lv_sipush (v := (4096)) hx hb dX2_nearestTo_63 (by decide) ?_
    refine lv_icmp_ge (tgt := 94) hx hb dX2_nearestTo_66 (by decide) (fun hc11 => ?_) (fun hc11 => ?_)
    · have hF := bq_t hc11 hF
      exact w_X2_nearestTo_94 cx hE x0 s0 v11 _ _ _ _ _ _ (lv_sub hl [4, 3, 0] rfl) hH hF
    · have hF := bq_f hc11 hF
      refine lv_lload_n hx hb dX2_nearestTo_69 rfl (lv_at hl 3 rfl) ?_
      refine lv_aload_n hx hb dX2_nearestTo_70 rfl (lv_at hl 4 rfl) ?_
      refine m_gR hx hb hown hk hH hF fk_RX2_row lk_RX2_24 dX2_nearestTo_71 (fun v15 hF => ?_)
      refine lv_iload hx hb dX2_nearestTo_74 (lv_at hl 1 rfl) ?_
      refine m_aI0 hx hb hk hH hF dX2_nearestTo_76 (fun v16 hF => ?_)
      refine lv_i2l hx hb dX2_nearestTo_77 rfl ?_
      refine lv_lmul hx hb dX2_nearestTo_78 ?_
      refine lv_lload hx hb dX2_nearestTo_79 (lv_at hl 2 rfl) ?_
      refine lv_lsub hx hb dX2_nearestTo_81 ?_
      refine lv_lload hx hb dX2_nearestTo_82 (lv_at hl 2 rfl) ?_
      refine lv_lload hx hb dX2_nearestTo_84 (lv_at hl 0 rfl) ?_
      refine lv_lsub hx hb dX2_nearestTo_86 ?_
      refine W.lcmp hx hb dX2_nearestTo_87 ?_
      refine lv_if_ge (tgt := 94) hx hb dX2_nearestTo_88 (by decide) (fun hc16 => ?_) (fun hc16 => ?_)
      · have hF := bq_t hc16 hF
        exact w_X2_nearestTo_94 cx hE x0 s0 v11 _ _ _ _ _ _ (lv_sub hl [4, 3, 0] rfl) hH hF
      · have hF := bq_f hc16 hF
        refine lv_iload hx hb dX2_nearestTo_91 (lv_at hl 1 rfl) ?_
        exact m_iret hx hb hr hlocks hH hE hF rfl dX2_nearestTo_93
  · have hF := bq_t hc7 hF
    refine lv_iconst (v := (0)) hx hb dX2_nearestTo_45 (by decide) ?_
    exact m_iret hx hb hr hlocks hH hE hF rfl dX2_nearestTo_46
set_option maxHeartbeats 4000000 in
set_option maxRecDepth 100000 in
theorem t_X2_nearestTo (l : Launch) (D : va_G) (cy : Nat → ClassId) (z : Nat) (o : Nat) (x1 : Int32) : MT l D cy z yX2_nearestTo cX2_nearestTo 9 (some .int) 1 40 (F_X2_nearestTo o x1) vI [.ref o, .int x1] := by
  refine m_enter [(0, .ref o), (1, .int x1)] (by decide) (by first | rfl | simp [lv_args, m_cat, m_ci, m_cl, m_cf, m_cd, m_cr]) (by first | exact Nat.le_of_ble_eq_true rfl | simp [lg_sl, m_cat, m_ci, m_cl, m_cf, m_cd, m_cr]) ?_
  intro p e R s m args below meth c ws0 wsf rr cx hE ws H locs cells slots ls hl hH hF
  obtain ⟨hx, hb, hr, hml, hown, hk, hz, hlocks, hnm, hfr, hlo⟩ := id cx
  unfold F_X2_nearestTo at hF
  refine lv_aload_n hx hb dX2_nearestTo_0 rfl (lv_at hl 0 rfl) ?_
  refine m_gI hx hb hown hk hH hF fk_RX2_trend lk_RX2_34 dX2_nearestTo_1 (fun v1 hF => ?_)
  refine lv_if_ne (tgt := 9) hx hb dX2_nearestTo_4 (by decide) (fun hc1 => ?_) (fun hc1 => ?_)
  · have hF := bq_f hc1 hF
    refine lv_aload_n hx hb dX2_nearestTo_9 rfl (lv_at hl 0 rfl) ?_
    refine m_gI hx hb hown hk hH hF fk_RX2_trend lk_RX2_34 dX2_nearestTo_10 (fun v3 hF => ?_)
    refine lv_iconst (v := (-1)) hx hb dX2_nearestTo_13 (by decide) ?_
    refine lv_icmp_ne (tgt := 23) hx hb dX2_nearestTo_14 (by decide) (fun hc3 => ?_) (fun hc3 => ?_)
    · have hF := bq_f hc3 hF
      refine lv_lconst (v := (1)) hx hb dX2_nearestTo_23 (by decide) ?_
      exact w_X2_nearestTo_24 cx hE o x1 (1 : Int64) _ _ _ _ _ _ (lv_sub hl [0, 1] rfl) hH hF
    · have hF := bq_t hc3 hF
      refine lv_ldc2 hx hb hown (hk.wd wd_532 args) dX2_nearestTo_17 ?_
      refine lv_goto (tgt := 24) hx hb dX2_nearestTo_20 (by decide) ?_
      exact w_X2_nearestTo_24 cx hE o x1 (-1 : Int64) _ _ _ _ _ _ (lv_sub hl [0, 1] rfl) hH hF
  · have hF := bq_t hc1 hF
    refine lv_iconst (v := (-1)) hx hb dX2_nearestTo_7 (by decide) ?_
    exact m_iret hx hb hr hlocks hH hE hF rfl dX2_nearestTo_8

def F_X3_init (o : Nat) : St (Unit) :=
  bd (nA 0 (32 : Int32)) fun a1 => bd (pV [2] 0 (some o) (va_rf (some a1))) fun _ => bd (nA 0 (32 : Int32)) fun a2 => bd (pV [2] 1 (some o) (va_rf (some a2))) fun _ => bd (pV [2] 2 (some o) (.int (0 : Int32))) fun _ => rt ()
set_option maxHeartbeats 4000000 in
set_option maxRecDepth 100000 in
theorem t_X3_init (l : Launch) (D : va_G) (cy : Nat → ClassId) (z : Nat) (o : Nat) : MT l D cy z yX3_init cX3_init 1 none 1 40 (F_X3_init o) vU [.ref o] := by
  refine m_enter [(0, .ref o)] (by decide) (by first | rfl | simp [lv_args, m_cat, m_ci, m_cl, m_cf, m_cd, m_cr]) (by first | exact Nat.le_of_ble_eq_true rfl | simp [lg_sl, m_cat, m_ci, m_cl, m_cf, m_cd, m_cr]) ?_
  intro p e R s m args below meth c ws0 wsf rr cx hE ws H locs cells slots ls hl hH hF
  obtain ⟨hx, hb, hr, hml, hown, hk, hz, hlocks, hnm, hfr, hlo⟩ := id cx
  unfold F_X3_init at hF
  refine lv_aload_n hx hb dX3_init_0 rfl (lv_at hl 0 rfl) ?_
  refine W.objInit hx hb hown (hk.wd wd_109 args) (hk.wd wd_52 args) (hk.wd wd_53 args) rfl (by rw [hml]; exact hl.1) rfl dX3_init_1 (Nat.le_trans (by decide) hfr) (Nat.le_trans (m := 40) (by first | exact Nat.le_of_ble_eq_true rfl | simp [m_cat, m_ci, m_cl, m_cf, m_cd, m_cr]) (Nat.le_trans (by decide) hlo)) ?_
  refine W.eq (g2 := F0 m 4 ls []) rfl ?_
  refine lv_aload_n hx hb dX3_init_4 rfl (lv_at hl 0 rfl) ?_
  refine lv_bipush (v := (32)) hx hb dX3_init_5 (by decide) ?_
  refine m_nA (t := 0) hx hb hk hH hE.le hz (by decide) rfl (by decide) wd_96 hF dX3_init_7 (fun a1 ws H hH hF => ?_)
  refine m_pVF hx hb hown hk hH hnm hF fk_RX3_counts wd_110 rfl pd_0 (m_nra _ _) (m_fra _ _) dX3_init_9 (fun ws H locs hH hF => ?_)
  refine lv_aload_n hx hb dX3_init_12 rfl (lv_at hl 0 rfl) ?_
  refine lv_bipush (v := (32)) hx hb dX3_init_13 (by decide) ?_
  refine m_nA (t := 0) hx hb hk hH hE.le hz (by decide) rfl (by decide) wd_96 hF dX3_init_15 (fun a2 ws H hH hF => ?_)
  refine m_pVF hx hb hown hk hH hnm hF fk_RX3_values wd_111 rfl pd_0 (m_nra _ _) (m_fra _ _) dX3_init_17 (fun ws H locs hH hF => ?_)
  refine lv_aload_n hx hb dX3_init_20 rfl (lv_at hl 0 rfl) ?_
  refine lv_iconst (v := (0)) hx hb dX3_init_21 (by decide) ?_
  refine m_pV hx hb hown hk hH hF fk_RX3_size lk_RX3_18 pd_9 rfl rfl dX3_init_22 (fun ws H locs hH hF => ?_)
  exact m_vret hx hb hr hlocks hH hE hF dX3_init_25

def F_X3_lastCount (o : Nat) : St (Int32) :=
  bd (gI [2] 2 (some o)) fun v1 => br (v1 = 0) (rt (-1 : Int32)) (bd (gR [2] 0 (some o)) fun v3 => bd (gI [2] 2 (some o)) fun v4 => bd (aI 0 v3 (v4 - (1 : Int32))) fun v5 => rt v5)
set_option maxHeartbeats 4000000 in
set_option maxRecDepth 100000 in
theorem t_X3_lastCount (l : Launch) (D : va_G) (cy : Nat → ClassId) (z : Nat) (o : Nat) : MT l D cy z yX3_lastCount cX3_lastCount 1 (some .int) 0 0 (F_X3_lastCount o) vI [.ref o] := by
  refine m_enter [(0, .ref o)] (by decide) (by first | rfl | simp [lv_args, m_cat, m_ci, m_cl, m_cf, m_cd, m_cr]) (by first | exact Nat.le_of_ble_eq_true rfl | simp [lg_sl, m_cat, m_ci, m_cl, m_cf, m_cd, m_cr]) ?_
  intro p e R s m args below meth c ws0 wsf rr cx hE ws H locs cells slots ls hl hH hF
  obtain ⟨hx, hb, hr, hml, hown, hk, hz, hlocks, hnm, hfr, hlo⟩ := id cx
  unfold F_X3_lastCount at hF
  refine lv_aload_n hx hb dX3_lastCount_0 rfl (lv_at hl 0 rfl) ?_
  refine m_gI hx hb hown hk hH hF fk_RX3_size lk_RX3_18 dX3_lastCount_1 (fun v1 hF => ?_)
  refine lv_if_ne (tgt := 11) hx hb dX3_lastCount_4 (by decide) (fun hc1 => ?_) (fun hc1 => ?_)
  · have hF := bq_f hc1 hF
    refine lv_aload_n hx hb dX3_lastCount_11 rfl (lv_at hl 0 rfl) ?_
    refine m_gR hx hb hown hk hH hF fk_RX3_counts lk_RX3_9 dX3_lastCount_12 (fun v3 hF => ?_)
    refine lv_aload_n hx hb dX3_lastCount_15 rfl (lv_at hl 0 rfl) ?_
    refine m_gI hx hb hown hk hH hF fk_RX3_size lk_RX3_18 dX3_lastCount_16 (fun v4 hF => ?_)
    refine lv_iconst (v := (1)) hx hb dX3_lastCount_19 (by decide) ?_
    refine lv_isub hx hb dX3_lastCount_20 ?_
    refine m_aI0 hx hb hk hH hF dX3_lastCount_21 (fun v5 hF => ?_)
    exact m_iret hx hb hr hlocks hH hE hF rfl dX3_lastCount_22
  · have hF := bq_t hc1 hF
    refine lv_iconst (v := (-1)) hx hb dX3_lastCount_7 (by decide) ?_
    refine lv_goto (tgt := 22) hx hb dX3_lastCount_8 (by decide) ?_
    exact m_iret hx hb hr hlocks hH hE hF rfl dX3_lastCount_22

def F_X3_add (o : Nat) (x1 : Int32) (x2 : Int32) : St (Unit) :=
  bd (gR [2] 0 (some o)) fun v1 => bd (gI [2] 2 (some o)) fun v2 => bd (sI 0 v1 v2 x1) fun _ => bd (gR [2] 1 (some o)) fun v3 => bd (gI [2] 2 (some o)) fun v4 => bd (sI 0 v3 v4 x2) fun _ => bd (gI [2] 2 (some o)) fun v5 => bd (pV [2] 2 (some o) (.int (v5 + (1 : Int32)))) fun _ => rt ()
set_option maxHeartbeats 4000000 in
set_option maxRecDepth 100000 in
theorem t_X3_add (l : Launch) (D : va_G) (cy : Nat → ClassId) (z : Nat) (o : Nat) (x1 : Int32) (x2 : Int32) : MT l D cy z yX3_add cX3_add 3 none 0 0 (F_X3_add o x1 x2) vU [.ref o, .int x1, .int x2] := by
  refine m_enter [(0, .ref o), (1, .int x1), (2, .int x2)] (by decide) (by first | rfl | simp [lv_args, m_cat, m_ci, m_cl, m_cf, m_cd, m_cr]) (by first | exact Nat.le_of_ble_eq_true rfl | simp [lg_sl, m_cat, m_ci, m_cl, m_cf, m_cd, m_cr]) ?_
  intro p e R s m args below meth c ws0 wsf rr cx hE ws H locs cells slots ls hl hH hF
  obtain ⟨hx, hb, hr, hml, hown, hk, hz, hlocks, hnm, hfr, hlo⟩ := id cx
  unfold F_X3_add at hF
  refine lv_aload_n hx hb dX3_add_0 rfl (lv_at hl 0 rfl) ?_
  refine m_gR hx hb hown hk hH hF fk_RX3_counts lk_RX3_9 dX3_add_1 (fun v1 hF => ?_)
  refine lv_aload_n hx hb dX3_add_4 rfl (lv_at hl 0 rfl) ?_
  refine m_gI hx hb hown hk hH hF fk_RX3_size lk_RX3_18 dX3_add_5 (fun v2 hF => ?_)
  refine lv_iload_n hx hb dX3_add_8 rfl (lv_at hl 1 rfl) ?_
  refine m_sI0 hx hb hk hH hF dX3_add_9 (fun ws H locs hH hF => ?_)
  refine lv_aload_n hx hb dX3_add_10 rfl (lv_at hl 0 rfl) ?_
  refine m_gR hx hb hown hk hH hF fk_RX3_values lk_RX3_15 dX3_add_11 (fun v3 hF => ?_)
  refine lv_aload_n hx hb dX3_add_14 rfl (lv_at hl 0 rfl) ?_
  refine m_gI hx hb hown hk hH hF fk_RX3_size lk_RX3_18 dX3_add_15 (fun v4 hF => ?_)
  refine lv_iload_n hx hb dX3_add_18 rfl (lv_at hl 2 rfl) ?_
  refine m_sI0 hx hb hk hH hF dX3_add_19 (fun ws H locs hH hF => ?_)
  refine lv_aload_n hx hb dX3_add_20 rfl (lv_at hl 0 rfl) ?_
  refine lv_dup hx hb dX3_add_21 rfl ?_
  refine m_gI hx hb hown hk hH hF fk_RX3_size lk_RX3_18 dX3_add_22 (fun v5 hF => ?_)
  refine lv_iconst (v := (1)) hx hb dX3_add_25 (by decide) ?_
  refine lv_iadd hx hb dX3_add_26 ?_
  refine m_pV hx hb hown hk hH hF fk_RX3_size lk_RX3_18 pd_9 rfl rfl dX3_add_27 (fun ws H locs hH hF => ?_)
  exact m_vret hx hb hr hlocks hH hE hF dX3_add_30

def F_X4_init (o : Nat) (x1 : Int64) (x3 : Int64) (x5 : Int64) : St (Unit) :=
  bd (F_X1_init o (0 : Int32) (1 : Int32)) fun c1 => bd (pV [3] 4 (some o) (.long x1)) fun _ => bd (pV [3] 5 (some o) (.long x3)) fun _ => bd (pV [3] 6 (some o) (.long x5)) fun _ => rt ()
set_option maxHeartbeats 4000000 in
set_option maxRecDepth 100000 in
theorem t_X4_init (l : Launch) (D : va_G) (cy : Nat → ClassId) (z : Nat) (o : Nat) (x1 : Int64) (x3 : Int64) (x5 : Int64) : MT l D cy z yX4_init cX4_init 7 none 2 62 (F_X4_init o x1 x3 x5) vU [.ref o, .long x1, .long x3, .long x5] := by
  refine m_enter [(0, .ref o), (1, .long x1), (3, .long x3), (5, .long x5)] (by decide) (by first | rfl | simp [lv_args, m_cat, m_ci, m_cl, m_cf, m_cd, m_cr]) (by first | exact Nat.le_of_ble_eq_true rfl | simp [lg_sl, m_cat, m_ci, m_cl, m_cf, m_cd, m_cr]) ?_
  intro p e R s m args below meth c ws0 wsf rr cx hE ws H locs cells slots ls hl hH hF
  obtain ⟨hx, hb, hr, hml, hown, hk, hz, hlocks, hnm, hfr, hlo⟩ := id cx
  unfold F_X4_init at hF
  refine lv_aload_n hx hb dX4_init_0 rfl (lv_at hl 0 rfl) ?_
  refine lv_iconst (v := (0)) hx hb dX4_init_1 (by decide) ?_
  refine lv_iconst (v := (1)) hx hb dX4_init_2 (by decide) ?_
  refine m_cI hx hb hml hown hk hH hE.le hz (b := o) (As := [.int (0 : Int32), .int (1 : Int32)]) (rest := []) (t_X1_init l D cy z o (0 : Int32) (1 : Int32)) hF wd_244 wd_245 wd_39 wd_246 yn_X1_init rfl ⟨Nat.le_trans (by decide) hfr, Nat.le_trans (by decide) hlo⟩ hl.1 (by first | exact Nat.le_of_ble_eq_true rfl | simp [m_cat, m_ci, m_cl, m_cf, m_cd, m_cr]) rfl dX4_init_3 (fun c1 ws H locs cells slots hH hF => ?_)
  refine lv_aload_n hx hb dX4_init_6 rfl (lv_at hl 0 rfl) ?_
  refine lv_lload_n hx hb dX4_init_7 rfl (lv_at hl 1 rfl) ?_
  refine m_pVF hx hb hown hk hH hnm hF fk_RX4_atZero wd_248 rfl pd_10 rfl rfl dX4_init_8 (fun ws H locs hH hF => ?_)
  refine lv_aload_n hx hb dX4_init_11 rfl (lv_at hl 0 rfl) ?_
  refine lv_lload_n hx hb dX4_init_12 rfl (lv_at hl 2 rfl) ?_
  refine m_pVF hx hb hown hk hH hnm hF fk_RX4_perCount wd_249 rfl pd_10 rfl rfl dX4_init_13 (fun ws H locs hH hF => ?_)
  refine lv_aload_n hx hb dX4_init_16 rfl (lv_at hl 0 rfl) ?_
  refine lv_lload hx hb dX4_init_17 (lv_at hl 3 rfl) ?_
  refine m_pVF hx hb hown hk hH hnm hF fk_RX4_divisor wd_250 rfl pd_10 rfl rfl dX4_init_19 (fun ws H locs hH hF => ?_)
  exact m_vret hx hb hr hlocks hH hE hF dX4_init_22

def F_X5_init (o : Nat) (x1 : Option Nat) : St (Unit) :=
  bd (F_X1_init o (1 : Int32) (1 : Int32)) fun c1 => bd (pV [4] 4 (some o) (va_rf x1)) fun _ => rt ()
set_option maxHeartbeats 4000000 in
set_option maxRecDepth 100000 in
theorem t_X5_init (l : Launch) (D : va_G) (cy : Nat → ClassId) (z : Nat) (o : Nat) (x1 : Option Nat) : MT l D cy z yX5_init cX5_init 2 none 2 62 (F_X5_init o x1) vU [.ref o, va_rf x1] := by
  refine m_enter [(0, .ref o), (1, va_rf x1)] (by decide) (by first | rfl | simp [lv_args, m_cat, m_ci, m_cl, m_cf, m_cd, m_cr]) (by first | exact Nat.le_of_ble_eq_true rfl | simp [lg_sl, m_cat, m_ci, m_cl, m_cf, m_cd, m_cr]) ?_
  intro p e R s m args below meth c ws0 wsf rr cx hE ws H locs cells slots ls hl hH hF
  obtain ⟨hx, hb, hr, hml, hown, hk, hz, hlocks, hnm, hfr, hlo⟩ := id cx
  unfold F_X5_init at hF
  refine lv_aload_n hx hb dX5_init_0 rfl (lv_at hl 0 rfl) ?_
  refine lv_iconst (v := (1)) hx hb dX5_init_1 (by decide) ?_
  refine lv_iconst (v := (1)) hx hb dX5_init_2 (by decide) ?_
  refine m_cI hx hb hml hown hk hH hE.le hz (b := o) (As := [.int (1 : Int32), .int (1 : Int32)]) (rest := []) (t_X1_init l D cy z o (1 : Int32) (1 : Int32)) hF wd_302 wd_245 wd_39 wd_246 yn_X1_init rfl ⟨Nat.le_trans (by decide) hfr, Nat.le_trans (by decide) hlo⟩ hl.1 (by first | exact Nat.le_of_ble_eq_true rfl | simp [m_cat, m_ci, m_cl, m_cf, m_cd, m_cr]) rfl dX5_init_3 (fun c1 ws H locs cells slots hH hF => ?_)
  refine lv_aload_n hx hb dX5_init_6 rfl (lv_at hl 0 rfl) ?_
  refine m_aload_n hx hb dX5_init_7 rfl (lv_at hl 1 rfl) ?_
  refine m_pVF hx hb hown hk hH hnm hF fk_RX5_knots wd_303 rfl pd_11 (m_nrf _ _) (m_frf _ _) dX5_init_8 (fun ws H locs hH hF => ?_)
  exact m_vret hx hb hr hlocks hH hE hF dX5_init_11

def F_X6_init (o : Nat) : St (Unit) :=
  bd (nA 0 (9 : Int32)) fun a1 => bd (pV [5] 0 (some o) (va_rf (some a1))) fun _ => bd (nA 0 (9 : Int32)) fun a2 => bd (pV [5] 1 (some o) (va_rf (some a2))) fun _ => bd (pV [5] 2 (some o) (va_rf none)) fun _ => bd (pV [5] 3 (some o) (.int (0 : Int32))) fun _ => bd (pV [5] 4 (some o) (.int (1 : Int32))) fun _ => bd (pV [5] 5 (some o) (.int (0 : Int32))) fun _ => bd (pV [5] 6 (some o) (.int (0 : Int32))) fun _ => rt ()
set_option maxHeartbeats 4000000 in
set_option maxRecDepth 100000 in
theorem t_X6_init (l : Launch) (D : va_G) (cy : Nat → ClassId) (z : Nat) (o : Nat) : MT l D cy z yX6_init cX6_init 1 none 1 40 (F_X6_init o) vU [.ref o] := by
  refine m_enter [(0, .ref o)] (by decide) (by first | rfl | simp [lv_args, m_cat, m_ci, m_cl, m_cf, m_cd, m_cr]) (by first | exact Nat.le_of_ble_eq_true rfl | simp [lg_sl, m_cat, m_ci, m_cl, m_cf, m_cd, m_cr]) ?_
  intro p e R s m args below meth c ws0 wsf rr cx hE ws H locs cells slots ls hl hH hF
  obtain ⟨hx, hb, hr, hml, hown, hk, hz, hlocks, hnm, hfr, hlo⟩ := id cx
  unfold F_X6_init at hF
  refine lv_aload_n hx hb dX6_init_0 rfl (lv_at hl 0 rfl) ?_
  refine W.objInit hx hb hown (hk.wd wd_144 args) (hk.wd wd_52 args) (hk.wd wd_53 args) rfl (by rw [hml]; exact hl.1) rfl dX6_init_1 (Nat.le_trans (by decide) hfr) (Nat.le_trans (m := 40) (by first | exact Nat.le_of_ble_eq_true rfl | simp [m_cat, m_ci, m_cl, m_cf, m_cd, m_cr]) (Nat.le_trans (by decide) hlo)) ?_
  refine W.eq (g2 := F0 m 4 ls []) rfl ?_
  refine lv_aload_n hx hb dX6_init_4 rfl (lv_at hl 0 rfl) ?_
  refine lv_bipush (v := (9)) hx hb dX6_init_5 (by decide) ?_
  refine m_nA (t := 0) hx hb hk hH hE.le hz (by decide) rfl (by decide) wd_96 hF dX6_init_7 (fun a1 ws H hH hF => ?_)
  refine m_pVF hx hb hown hk hH hnm hF fk_RX6_fed wd_145 rfl pd_0 (m_nra _ _) (m_fra _ _) dX6_init_9 (fun ws H locs hH hF => ?_)
  refine lv_aload_n hx hb dX6_init_12 rfl (lv_at hl 0 rfl) ?_
  refine lv_bipush (v := (9)) hx hb dX6_init_13 (by decide) ?_
  refine m_nA (t := 0) hx hb hk hH hE.le hz (by decide) rfl (by decide) wd_96 hF dX6_init_15 (fun a2 ws H hH hF => ?_)
  refine m_pVF hx hb hown hk hH hnm hF fk_RX6_bySize wd_146 rfl pd_0 (m_nra _ _) (m_fra _ _) dX6_init_17 (fun ws H locs hH hF => ?_)
  refine lv_aload_n hx hb dX6_init_20 rfl (lv_at hl 0 rfl) ?_
  refine lv_null hx hb dX6_init_21 ?_
  refine m_pV hx hb hown hk hH hF fk_RX6_curve lk_RX6_18 pd_12 (m_nrf _ _) (m_frf _ _) dX6_init_22 (fun ws H locs hH hF => ?_)
  refine lv_aload_n hx hb dX6_init_25 rfl (lv_at hl 0 rfl) ?_
  refine lv_iconst (v := (0)) hx hb dX6_init_26 (by decide) ?_
  refine m_pV hx hb hown hk hH hF fk_RX6_filter lk_RX6_22 pd_9 rfl rfl dX6_init_27 (fun ws H locs hH hF => ?_)
  refine lv_aload_n hx hb dX6_init_30 rfl (lv_at hl 0 rfl) ?_
  refine lv_iconst (v := (1)) hx hb dX6_init_31 (by decide) ?_
  refine m_pV hx hb hown hk hH hF fk_RX6_window lk_RX6_26 pd_9 rfl rfl dX6_init_32 (fun ws H locs hH hF => ?_)
  refine lv_aload_n hx hb dX6_init_35 rfl (lv_at hl 0 rfl) ?_
  refine lv_iconst (v := (0)) hx hb dX6_init_36 (by decide) ?_
  refine m_pV hx hb hown hk hH hF fk_RX6_size lk_RX6_29 pd_9 rfl rfl dX6_init_37 (fun ws H locs hH hF => ?_)
  refine lv_aload_n hx hb dX6_init_40 rfl (lv_at hl 0 rfl) ?_
  refine lv_iconst (v := (0)) hx hb dX6_init_41 (by decide) ?_
  refine m_pV hx hb hown hk hH hF fk_RX6_given lk_RX6_32 pd_9 rfl rfl dX6_init_42 (fun ws H locs hH hF => ?_)
  exact m_vret hx hb hr hlocks hH hE hF dX6_init_45

def F_X6_begin (o : Nat) (x1 : Option Nat) (x2 : Int32) (x3 : Int32) : St (Unit) :=
  bd (pV [5] 2 (some o) (va_rf x1)) fun _ => bd (pV [5] 3 (some o) (.int x2)) fun _ => bd (pV [5] 4 (some o) (.int x3)) fun _ => bd (pV [5] 5 (some o) (.int (0 : Int32))) fun _ => rt ()
set_option maxHeartbeats 4000000 in
set_option maxRecDepth 100000 in
theorem t_X6_begin (l : Launch) (D : va_G) (cy : Nat → ClassId) (z : Nat) (o : Nat) (x1 : Option Nat) (x2 : Int32) (x3 : Int32) : MT l D cy z yX6_begin cX6_begin 4 none 0 0 (F_X6_begin o x1 x2 x3) vU [.ref o, va_rf x1, .int x2, .int x3] := by
  refine m_enter [(0, .ref o), (1, va_rf x1), (2, .int x2), (3, .int x3)] (by decide) (by first | rfl | simp [lv_args, m_cat, m_ci, m_cl, m_cf, m_cd, m_cr]) (by first | exact Nat.le_of_ble_eq_true rfl | simp [lg_sl, m_cat, m_ci, m_cl, m_cf, m_cd, m_cr]) ?_
  intro p e R s m args below meth c ws0 wsf rr cx hE ws H locs cells slots ls hl hH hF
  obtain ⟨hx, hb, hr, hml, hown, hk, hz, hlocks, hnm, hfr, hlo⟩ := id cx
  unfold F_X6_begin at hF
  refine lv_aload_n hx hb dX6_begin_0 rfl (lv_at hl 0 rfl) ?_
  refine m_aload_n hx hb dX6_begin_1 rfl (lv_at hl 1 rfl) ?_
  refine m_pV hx hb hown hk hH hF fk_RX6_curve lk_RX6_18 pd_12 (m_nrf _ _) (m_frf _ _) dX6_begin_2 (fun ws H locs hH hF => ?_)
  refine lv_aload_n hx hb dX6_begin_5 rfl (lv_at hl 0 rfl) ?_
  refine lv_iload_n hx hb dX6_begin_6 rfl (lv_at hl 2 rfl) ?_
  refine m_pV hx hb hown hk hH hF fk_RX6_filter lk_RX6_22 pd_9 rfl rfl dX6_begin_7 (fun ws H locs hH hF => ?_)
  refine lv_aload_n hx hb dX6_begin_10 rfl (lv_at hl 0 rfl) ?_
  refine lv_iload_n hx hb dX6_begin_11 rfl (lv_at hl 3 rfl) ?_
  refine m_pV hx hb hown hk hH hF fk_RX6_window lk_RX6_26 pd_9 rfl rfl dX6_begin_12 (fun ws H locs hH hF => ?_)
  refine lv_aload_n hx hb dX6_begin_15 rfl (lv_at hl 0 rfl) ?_
  refine lv_iconst (v := (0)) hx hb dX6_begin_16 (by decide) ?_
  refine m_pV hx hb hown hk hH hF fk_RX6_size lk_RX6_29 pd_9 rfl rfl dX6_begin_17 (fun ws H locs hH hF => ?_)
  exact m_vret hx hb hr hlocks hH hE hF dX6_begin_20

def b_X6_mean_4 (x0 : Nat) (rec : Int64 → Int32 → St (Int32)) (k : Int64 → St (Int32)) (x1 : Int64) (x3 : Int32) : St (Int32) :=
  bd (gI [5] 5 (some x0)) fun v1 => br (v1 ≤ x3) (k x1) (bd (gR [5] 0 (some x0)) fun v3 => bd (aI 0 v3 x3) fun v4 => bd (rt (x1 + v4.toInt64)) fun v5 => rec v5 (x3 + (1 : Int32)))
def l_X6_mean_4 (x0 : Nat) (k : Int64 → St (Int32)) : Nat → Int64 → Int32 → St (Int32)
  | 0 => fun _ _ => fl
  | n + 1 => fun x1 x3 => b_X6_mean_4 x0 (l_X6_mean_4 x0 k n) k x1 x3
def F_X6_mean (o : Nat) : St (Int32) :=
  l_X6_mean_4 o (fun (e6 : Int64) => bd (gI [5] 5 (some o)) fun v7 => bd (F_X10_rounded e6 v7.toInt64) fun c8 => rt c8.toInt32) FU (0 : Int64) (0 : Int32)
set_option maxHeartbeats 4000000 in
set_option maxRecDepth 100000 in
theorem wb_X6_mean_4 {l : Launch} {D : va_G} {cy : Nat → ClassId} {z : Nat} {p : Program} {e : Env} {R : Room} {s : State} {m : MethodId} {args : Array Value} {below : List Frame} {meth : Method} {c : Code} {ws0 wsf : WS} {rr : Int32} (cx : Cx D cy z RX6 cX6_mean 4 (some .int) 2 68 "mean" p R s m meth c) (hE : AC ws0 wsf R.cells R.slots) (x0 : Nat) (rec : Int64 → Int32 → St (Int32)) (k : Int64 → St (Int32)) (hrec : ∀ (x1 : Int64) (x3 : Int32), At_ l D cy z p e R s m args below meth c ws0 wsf vI rr 4 4 [(0, .ref x0), (1, .long x1), (3, .int x3)] [] (rec x1 x3)) (hkk : ∀ (x1 : Int64), At_ l D cy z p e R s m args below meth c ws0 wsf vI rr 4 28 [(0, .ref x0), (1, .long x1)] [] (k x1)) (x1 : Int64) (x3 : Int32) : At_ l D cy z p e R s m args below meth c ws0 wsf vI rr 4 4 [(0, .ref x0), (1, .long x1), (3, .int x3)] [] (b_X6_mean_4 x0 rec k x1 x3) := by
  intro ws H locs cells slots ls hl hH hF
  obtain ⟨hx, hb, hr, hml, hown, hk, hz, hlocks, hnm, hfr, hlo⟩ := id cx
  unfold b_X6_mean_4 at hF
  refine lv_iload_n hx hb dX6_mean_4 rfl (lv_at hl 2 rfl) ?_
  refine lv_aload_n hx hb dX6_mean_5 rfl (lv_at hl 0 rfl) ?_
  refine m_gI hx hb hown hk hH hF fk_RX6_size lk_RX6_29 dX6_mean_6 (fun v1 hF => ?_)
  refine lv_icmp_ge (tgt := 28) hx hb dX6_mean_9 (by decide) (fun hc1 => ?_) (fun hc1 => ?_)
  · have hF := bq_t hc1 hF
    exact hkk _ _ _ _ _ _ _ (lv_sub hl [0, 1] rfl) hH hF
  · have hF := bq_f hc1 hF
    refine lv_lload_n hx hb dX6_mean_12 rfl (lv_at hl 1 rfl) ?_
    refine lv_aload_n hx hb dX6_mean_13 rfl (lv_at hl 0 rfl) ?_
    refine m_gR hx hb hown hk hH hF fk_RX6_fed lk_RX6_9 dX6_mean_14 (fun v3 hF => ?_)
    refine lv_iload_n hx hb dX6_mean_17 rfl (lv_at hl 2 rfl) ?_
    refine m_aI0 hx hb hk hH hF dX6_mean_18 (fun v4 hF => ?_)
    refine lv_i2l hx hb dX6_mean_19 rfl ?_
    refine lv_ladd hx hb dX6_mean_20 ?_
    refine lv_topl (fun v5 hv5 => ?_)
    have hF := rt_t hv5 hF
    refine lv_lstore_n (lv' := [(1, .long v5), (0, .ref x0), (3, .int x3)]) hx hb dX6_mean_21 rfl hl (by decide) (by first | rfl | simp [m_cat, m_ci, m_cl, m_cf, m_cd, m_cr]) (fun ls hl => ?_)
    refine lv_iinc (v := (x3 + (1 : Int32))) (lv' := [(3, .int (x3 + (1 : Int32))), (1, .long v5), (0, .ref x0)]) hx hb dX6_mean_22 hl (k := 2) rfl (by first | rfl | (congr 1)) (by decide) (by first | rfl | simp [m_cat, m_ci, m_cl, m_cf, m_cd, m_cr]) (fun ls hl => ?_)
    refine lv_goto (tgt := 4) hx hb dX6_mean_25 (by decide) ?_
    exact hrec _ _ _ _ _ _ _ _ (lv_sub hl [2, 1, 0] rfl) hH hF
theorem w_X6_mean_4 {l : Launch} {D : va_G} {cy : Nat → ClassId} {z : Nat} {p : Program} {e : Env} {R : Room} {s : State} {m : MethodId} {args : Array Value} {below : List Frame} {meth : Method} {c : Code} {ws0 wsf : WS} {rr : Int32} (cx : Cx D cy z RX6 cX6_mean 4 (some .int) 2 68 "mean" p R s m meth c) (hE : AC ws0 wsf R.cells R.slots) (x0 : Nat) (k : Int64 → St (Int32)) (hkk : ∀ (x1 : Int64), At_ l D cy z p e R s m args below meth c ws0 wsf vI rr 4 28 [(0, .ref x0), (1, .long x1)] [] (k x1)) : ∀ (n : Nat) (x1 : Int64) (x3 : Int32), At_ l D cy z p e R s m args below meth c ws0 wsf vI rr 4 4 [(0, .ref x0), (1, .long x1), (3, .int x3)] [] (l_X6_mean_4 x0 k n x1 x3) := by
  intro n
  induction n with
  | zero =>
    intro x1 x3 ws H locs cells slots ls hl hH hF
    exact fl_t hF
  | succ n ih =>
    intro x1 x3
    exact wb_X6_mean_4 cx hE x0 (l_X6_mean_4 x0 k n) k ih hkk x1 x3
set_option maxHeartbeats 4000000 in
set_option maxRecDepth 100000 in
theorem t_X6_mean (l : Launch) (D : va_G) (cy : Nat → ClassId) (z : Nat) (o : Nat) : MT l D cy z yX6_mean cX6_mean 4 (some .int) 2 68 (F_X6_mean o) vI [.ref o] := by
  refine m_enter [(0, .ref o)] (by decide) (by first | rfl | simp [lv_args, m_cat, m_ci, m_cl, m_cf, m_cd, m_cr]) (by first | exact Nat.le_of_ble_eq_true rfl | simp [lg_sl, m_cat, m_ci, m_cl, m_cf, m_cd, m_cr]) ?_
  intro p e R s m args below meth c ws0 wsf rr cx hE ws H locs cells slots ls hl hH hF
  obtain ⟨hx, hb, hr, hml, hown, hk, hz, hlocks, hnm, hfr, hlo⟩ := id cx
  unfold F_X6_mean at hF
  refine lv_lconst (v := (0)) hx hb dX6_mean_0 (by decide) ?_
  refine lv_lstore_n (lv' := [(1, .long (0 : Int64)), (0, .ref o)]) hx hb dX6_mean_1 rfl hl (by decide) (by first | rfl | simp [m_cat, m_ci, m_cl, m_cf, m_cd, m_cr]) (fun ls hl => ?_)
  refine lv_iconst (v := (0)) hx hb dX6_mean_2 (by decide) ?_
  refine lv_istore_n (lv' := [(3, .int (0 : Int32)), (1, .long (0 : Int64)), (0, .ref o)]) hx hb dX6_mean_3 rfl hl (by decide) (by first | rfl | simp [m_cat, m_ci, m_cl, m_cf, m_cd, m_cr]) (fun ls hl => ?_)
  refine w_X6_mean_4 cx hE o _ (fun e6 ws H locs cells slots ls hl hH hF => ?_) _ _ _ _ _ _ _ _ _ (lv_sub hl [2, 1, 0] rfl) hH hF
  refine lv_lload_n hx hb dX6_mean_28 rfl (lv_at hl 1 rfl) ?_
  refine lv_aload_n hx hb dX6_mean_29 rfl (lv_at hl 0 rfl) ?_
  refine m_gI hx hb hown hk hH hF fk_RX6_size lk_RX6_29 dX6_mean_30 (fun v7 hF => ?_)
  refine lv_i2l hx hb dX6_mean_33 rfl ?_
  refine m_cSNL hx hb hml hown hk hH hE.le hz (As := [.long e6, .long v7.toInt64]) (rest := []) (t_X10_rounded l D cy z e6 v7.toInt64) hF ⟨_, wd_607⟩ wd_328 wd_33 wd_329 yn_X10_rounded ⟨Nat.le_trans (by decide) hfr, Nat.le_trans (by decide) hlo⟩ hl.1 (by first | exact Nat.le_of_ble_eq_true rfl | simp [m_cat, m_ci, m_cl, m_cf, m_cd, m_cr]) rfl dX6_mean_34 (fun c8 ws H locs cells slots hH hF => ?_)
  refine lv_l2i hx hb dX6_mean_37 rfl ?_
  exact m_iret hx hb hr hlocks hH hE hF rfl dX6_mean_38

def b_X6_middle_14 (x0 : Nat) (x1 : Int32) (rec : Int32 → Int32 → St (Int32)) (k : Int32 → St (Int32)) (x2 : Int32) (x3 : Int32) : St (Int32) :=
  br (x3 ≤ 0) (k x2) (bd (gR [5] 1 (some x0)) fun v4 => bd (aI 0 v4 (x3 - (1 : Int32))) fun v5 => bd (gR [5] 0 (some x0)) fun v6 => bd (aI 0 v6 x1) fun v7 => br (v5 ≤ v7) (k x2) (bd (gR [5] 1 (some x0)) fun v9 => bd (gR [5] 1 (some x0)) fun v10 => bd (aI 0 v10 (x3 - (1 : Int32))) fun v11 => bd (sI 0 v9 x3 v11) fun _ => bd (rt (x3 - (1 : Int32))) fun v12 => rec v12 (x3 + (-1 : Int32))))
def l_X6_middle_14 (x0 : Nat) (x1 : Int32) (k : Int32 → St (Int32)) : Nat → Int32 → Int32 → St (Int32)
  | 0 => fun _ _ => fl
  | n + 1 => fun x2 x3 => b_X6_middle_14 x0 x1 (l_X6_middle_14 x0 x1 k n) k x2 x3
def j_X6_middle_59 (rec : Int32 → St (Int32)) (k : St (Int32)) (x0 : Nat) (x1 : Int32) (x2 : Int32) : St (Int32) :=
  bd (gR [5] 1 (some x0)) fun v14 => bd (gR [5] 0 (some x0)) fun v15 => bd (aI 0 v15 x1) fun v16 => bd (sI 0 v14 x2 v16) fun _ => rec (x1 + (1 : Int32))
def b_X6_middle_2 (x0 : Nat) (rec : Int32 → St (Int32)) (k : St (Int32)) (x1 : Int32) : St (Int32) :=
  bd (gI [5] 5 (some x0)) fun v1 => br (v1 ≤ x1) (k) (l_X6_middle_14 x0 x1 (fun (e13 : Int32) => j_X6_middle_59 rec k x0 x1 e13) FU x1 x1)
def l_X6_middle_2 (x0 : Nat) (k : St (Int32)) : Nat → Int32 → St (Int32)
  | 0 => fun _ => fl
  | n + 1 => fun x1 => b_X6_middle_2 x0 (l_X6_middle_2 x0 k n) k x1
def F_X6_middle (o : Nat) : St (Int32) :=
  l_X6_middle_2 o (bd (gR [5] 1 (some o)) fun v17 => bd (gI [5] 5 (some o)) fun v18 => bd (aI 0 v17 ((v18 - (1 : Int32)) / (2 : Int32))) fun v19 => rt v19) FU (0 : Int32)
set_option maxHeartbeats 4000000 in
set_option maxRecDepth 100000 in
theorem wb_X6_middle_14 {l : Launch} {D : va_G} {cy : Nat → ClassId} {z : Nat} {p : Program} {e : Env} {R : Room} {s : State} {m : MethodId} {args : Array Value} {below : List Frame} {meth : Method} {c : Code} {ws0 wsf : WS} {rr : Int32} (cx : Cx D cy z RX6 cX6_middle 4 (some .int) 0 0 "middle" p R s m meth c) (hE : AC ws0 wsf R.cells R.slots) (x0 : Nat) (x1 : Int32) (rec : Int32 → Int32 → St (Int32)) (k : Int32 → St (Int32)) (hrec : ∀ (x2 : Int32) (x3 : Int32), At_ l D cy z p e R s m args below meth c ws0 wsf vI rr 4 14 [(0, .ref x0), (1, .int x1), (2, .int x2), (3, .int x3)] [] (rec x2 x3)) (hkk : ∀ (x2 : Int32), At_ l D cy z p e R s m args below meth c ws0 wsf vI rr 4 59 [(0, .ref x0), (1, .int x1), (2, .int x2)] [] (k x2)) (x2 : Int32) (x3 : Int32) : At_ l D cy z p e R s m args below meth c ws0 wsf vI rr 4 14 [(0, .ref x0), (1, .int x1), (2, .int x2), (3, .int x3)] [] (b_X6_middle_14 x0 x1 rec k x2 x3) := by
  intro ws H locs cells slots ls hl hH hF
  obtain ⟨hx, hb, hr, hml, hown, hk, hz, hlocks, hnm, hfr, hlo⟩ := id cx
  unfold b_X6_middle_14 at hF
  refine lv_iload_n hx hb dX6_middle_14 rfl (lv_at hl 3 rfl) ?_
  refine lv_if_le (tgt := 59) hx hb dX6_middle_15 (by decide) (fun hc2 => ?_) (fun hc2 => ?_)
  · have hF := bq_t hc2 hF
    exact hkk _ _ _ _ _ _ _ (lv_sub hl [0, 1, 2] rfl) hH hF
  · have hF := bq_f hc2 hF
    refine lv_aload_n hx hb dX6_middle_18 rfl (lv_at hl 0 rfl) ?_
    refine m_gR hx hb hown hk hH hF fk_RX6_bySize lk_RX6_15 dX6_middle_19 (fun v4 hF => ?_)
    refine lv_iload_n hx hb dX6_middle_22 rfl (lv_at hl 3 rfl) ?_
    refine lv_iconst (v := (1)) hx hb dX6_middle_23 (by decide) ?_
    refine lv_isub hx hb dX6_middle_24 ?_
    refine m_aI0 hx hb hk hH hF dX6_middle_25 (fun v5 hF => ?_)
    refine lv_aload_n hx hb dX6_middle_26 rfl (lv_at hl 0 rfl) ?_
    refine m_gR hx hb hown hk hH hF fk_RX6_fed lk_RX6_9 dX6_middle_27 (fun v6 hF => ?_)
    refine lv_iload_n hx hb dX6_middle_30 rfl (lv_at hl 1 rfl) ?_
    refine m_aI0 hx hb hk hH hF dX6_middle_31 (fun v7 hF => ?_)
    refine lv_icmp_le (tgt := 59) hx hb dX6_middle_32 (by decide) (fun hc7 => ?_) (fun hc7 => ?_)
    · have hF := bq_t hc7 hF
      exact hkk _ _ _ _ _ _ _ (lv_sub hl [0, 1, 2] rfl) hH hF
    · have hF := bq_f hc7 hF
      refine lv_aload_n hx hb dX6_middle_35 rfl (lv_at hl 0 rfl) ?_
      refine m_gR hx hb hown hk hH hF fk_RX6_bySize lk_RX6_15 dX6_middle_36 (fun v9 hF => ?_)
      refine lv_iload_n hx hb dX6_middle_39 rfl (lv_at hl 3 rfl) ?_
      refine lv_aload_n hx hb dX6_middle_40 rfl (lv_at hl 0 rfl) ?_
      refine m_gR hx hb hown hk hH hF fk_RX6_bySize lk_RX6_15 dX6_middle_41 (fun v10 hF => ?_)
      refine lv_iload_n hx hb dX6_middle_44 rfl (lv_at hl 3 rfl) ?_
      refine lv_iconst (v := (1)) hx hb dX6_middle_45 (by decide) ?_
      refine lv_isub hx hb dX6_middle_46 ?_
      refine m_aI0 hx hb hk hH hF dX6_middle_47 (fun v11 hF => ?_)
      refine m_sI0 hx hb hk hH hF dX6_middle_48 (fun ws H locs hH hF => ?_)
      refine lv_iload_n hx hb dX6_middle_49 rfl (lv_at hl 3 rfl) ?_
      refine lv_iconst (v := (1)) hx hb dX6_middle_50 (by decide) ?_
      refine lv_isub hx hb dX6_middle_51 ?_
      refine lv_topi (fun v12 hv12 => ?_)
      have hF := rt_t hv12 hF
      refine lv_istore_n (lv' := [(2, .int v12), (0, .ref x0), (1, .int x1), (3, .int x3)]) hx hb dX6_middle_52 rfl hl (by decide) (by first | rfl | simp [m_cat, m_ci, m_cl, m_cf, m_cd, m_cr]) (fun ls hl => ?_)
      refine lv_iinc (v := (x3 + (-1 : Int32))) (lv' := [(3, .int (x3 + (-1 : Int32))), (2, .int v12), (0, .ref x0), (1, .int x1)]) hx hb dX6_middle_53 hl (k := 3) rfl (by first | rfl | (congr 1)) (by decide) (by first | rfl | simp [m_cat, m_ci, m_cl, m_cf, m_cd, m_cr]) (fun ls hl => ?_)
      refine lv_goto (tgt := 14) hx hb dX6_middle_56 (by decide) ?_
      exact hrec _ _ _ _ _ _ _ _ (lv_sub hl [2, 3, 1, 0] rfl) hH hF
theorem w_X6_middle_14 {l : Launch} {D : va_G} {cy : Nat → ClassId} {z : Nat} {p : Program} {e : Env} {R : Room} {s : State} {m : MethodId} {args : Array Value} {below : List Frame} {meth : Method} {c : Code} {ws0 wsf : WS} {rr : Int32} (cx : Cx D cy z RX6 cX6_middle 4 (some .int) 0 0 "middle" p R s m meth c) (hE : AC ws0 wsf R.cells R.slots) (x0 : Nat) (x1 : Int32) (k : Int32 → St (Int32)) (hkk : ∀ (x2 : Int32), At_ l D cy z p e R s m args below meth c ws0 wsf vI rr 4 59 [(0, .ref x0), (1, .int x1), (2, .int x2)] [] (k x2)) : ∀ (n : Nat) (x2 : Int32) (x3 : Int32), At_ l D cy z p e R s m args below meth c ws0 wsf vI rr 4 14 [(0, .ref x0), (1, .int x1), (2, .int x2), (3, .int x3)] [] (l_X6_middle_14 x0 x1 k n x2 x3) := by
  intro n
  induction n with
  | zero =>
    intro x2 x3 ws H locs cells slots ls hl hH hF
    exact fl_t hF
  | succ n ih =>
    intro x2 x3
    exact wb_X6_middle_14 cx hE x0 x1 (l_X6_middle_14 x0 x1 k n) k ih hkk x2 x3
set_option maxHeartbeats 4000000 in
set_option maxRecDepth 100000 in
theorem w_X6_middle_59 {l : Launch} {D : va_G} {cy : Nat → ClassId} {z : Nat} {p : Program} {e : Env} {R : Room} {s : State} {m : MethodId} {args : Array Value} {below : List Frame} {meth : Method} {c : Code} {ws0 wsf : WS} {rr : Int32} (cx : Cx D cy z RX6 cX6_middle 4 (some .int) 0 0 "middle" p R s m meth c) (hE : AC ws0 wsf R.cells R.slots) (rec : Int32 → St (Int32)) (k : St (Int32)) (x0 : Nat) (hrec : ∀ (x1 : Int32), At_ l D cy z p e R s m args below meth c ws0 wsf vI rr 4 2 [(0, .ref x0), (1, .int x1)] [] (rec x1)) (hkk : At_ l D cy z p e R s m args below meth c ws0 wsf vI rr 4 77 [(0, .ref x0)] [] (k)) (x1 : Int32) (x2 : Int32) : At_ l D cy z p e R s m args below meth c ws0 wsf vI rr 4 59 [(0, .ref x0), (1, .int x1), (2, .int x2)] [] (j_X6_middle_59 rec k x0 x1 x2) := by
  intro ws H locs cells slots ls hl hH hF
  obtain ⟨hx, hb, hr, hml, hown, hk, hz, hlocks, hnm, hfr, hlo⟩ := id cx
  unfold j_X6_middle_59 at hF
  refine lv_aload_n hx hb dX6_middle_59 rfl (lv_at hl 0 rfl) ?_
  refine m_gR hx hb hown hk hH hF fk_RX6_bySize lk_RX6_15 dX6_middle_60 (fun v14 hF => ?_)
  refine lv_iload_n hx hb dX6_middle_63 rfl (lv_at hl 2 rfl) ?_
  refine lv_aload_n hx hb dX6_middle_64 rfl (lv_at hl 0 rfl) ?_
  refine m_gR hx hb hown hk hH hF fk_RX6_fed lk_RX6_9 dX6_middle_65 (fun v15 hF => ?_)
  refine lv_iload_n hx hb dX6_middle_68 rfl (lv_at hl 1 rfl) ?_
  refine m_aI0 hx hb hk hH hF dX6_middle_69 (fun v16 hF => ?_)
  refine m_sI0 hx hb hk hH hF dX6_middle_70 (fun ws H locs hH hF => ?_)
  refine lv_iinc (v := (x1 + (1 : Int32))) (lv' := [(1, .int (x1 + (1 : Int32))), (0, .ref x0), (2, .int x2)]) hx hb dX6_middle_71 hl (k := 1) rfl (by first | rfl | (congr 1)) (by decide) (by first | rfl | simp [m_cat, m_ci, m_cl, m_cf, m_cd, m_cr]) (fun ls hl => ?_)
  refine lv_goto (tgt := 2) hx hb dX6_middle_74 (by decide) ?_
  exact hrec _ _ _ _ _ _ _ (lv_sub hl [1, 0] rfl) hH hF
set_option maxHeartbeats 4000000 in
set_option maxRecDepth 100000 in
theorem wb_X6_middle_2 {l : Launch} {D : va_G} {cy : Nat → ClassId} {z : Nat} {p : Program} {e : Env} {R : Room} {s : State} {m : MethodId} {args : Array Value} {below : List Frame} {meth : Method} {c : Code} {ws0 wsf : WS} {rr : Int32} (cx : Cx D cy z RX6 cX6_middle 4 (some .int) 0 0 "middle" p R s m meth c) (hE : AC ws0 wsf R.cells R.slots) (x0 : Nat) (rec : Int32 → St (Int32)) (k : St (Int32)) (hrec : ∀ (x1 : Int32), At_ l D cy z p e R s m args below meth c ws0 wsf vI rr 4 2 [(0, .ref x0), (1, .int x1)] [] (rec x1)) (hkk : At_ l D cy z p e R s m args below meth c ws0 wsf vI rr 4 77 [(0, .ref x0)] [] (k)) (x1 : Int32) : At_ l D cy z p e R s m args below meth c ws0 wsf vI rr 4 2 [(0, .ref x0), (1, .int x1)] [] (b_X6_middle_2 x0 rec k x1) := by
  intro ws H locs cells slots ls hl hH hF
  obtain ⟨hx, hb, hr, hml, hown, hk, hz, hlocks, hnm, hfr, hlo⟩ := id cx
  unfold b_X6_middle_2 at hF
  refine lv_iload_n hx hb dX6_middle_2 rfl (lv_at hl 1 rfl) ?_
  refine lv_aload_n hx hb dX6_middle_3 rfl (lv_at hl 0 rfl) ?_
  refine m_gI hx hb hown hk hH hF fk_RX6_size lk_RX6_29 dX6_middle_4 (fun v1 hF => ?_)
  refine lv_icmp_ge (tgt := 77) hx hb dX6_middle_7 (by decide) (fun hc1 => ?_) (fun hc1 => ?_)
  · have hF := bq_t hc1 hF
    exact hkk _ _ _ _ _ _ (lv_sub hl [0] rfl) hH hF
  · have hF := bq_f hc1 hF
    refine lv_iload_n hx hb dX6_middle_10 rfl (lv_at hl 1 rfl) ?_
    refine lv_istore_n (lv' := [(2, .int x1), (0, .ref x0), (1, .int x1)]) hx hb dX6_middle_11 rfl hl (by decide) (by first | rfl | simp [m_cat, m_ci, m_cl, m_cf, m_cd, m_cr]) (fun ls hl => ?_)
    refine lv_iload_n hx hb dX6_middle_12 rfl (lv_at hl 2 rfl) ?_
    refine lv_istore_n (lv' := [(3, .int x1), (2, .int x1), (0, .ref x0), (1, .int x1)]) hx hb dX6_middle_13 rfl hl (by decide) (by first | rfl | simp [m_cat, m_ci, m_cl, m_cf, m_cd, m_cr]) (fun ls hl => ?_)
    refine w_X6_middle_14 cx hE x0 x1 _ (fun e13 ws H locs cells slots ls hl hH hF => ?_) _ _ _ _ _ _ _ _ _ (lv_sub hl [2, 3, 1, 0] rfl) hH hF
    exact w_X6_middle_59 cx hE _ _ x0 hrec hkk x1 e13 _ _ _ _ _ _ (lv_sub hl [0, 1, 2] rfl) hH hF
theorem w_X6_middle_2 {l : Launch} {D : va_G} {cy : Nat → ClassId} {z : Nat} {p : Program} {e : Env} {R : Room} {s : State} {m : MethodId} {args : Array Value} {below : List Frame} {meth : Method} {c : Code} {ws0 wsf : WS} {rr : Int32} (cx : Cx D cy z RX6 cX6_middle 4 (some .int) 0 0 "middle" p R s m meth c) (hE : AC ws0 wsf R.cells R.slots) (x0 : Nat) (k : St (Int32)) (hkk : At_ l D cy z p e R s m args below meth c ws0 wsf vI rr 4 77 [(0, .ref x0)] [] (k)) : ∀ (n : Nat) (x1 : Int32), At_ l D cy z p e R s m args below meth c ws0 wsf vI rr 4 2 [(0, .ref x0), (1, .int x1)] [] (l_X6_middle_2 x0 k n x1) := by
  intro n
  induction n with
  | zero =>
    intro x1 ws H locs cells slots ls hl hH hF
    exact fl_t hF
  | succ n ih =>
    intro x1
    exact wb_X6_middle_2 cx hE x0 (l_X6_middle_2 x0 k n) k ih hkk x1
set_option maxHeartbeats 4000000 in
set_option maxRecDepth 100000 in
theorem t_X6_middle (l : Launch) (D : va_G) (cy : Nat → ClassId) (z : Nat) (o : Nat) : MT l D cy z yX6_middle cX6_middle 4 (some .int) 0 0 (F_X6_middle o) vI [.ref o] := by
  refine m_enter [(0, .ref o)] (by decide) (by first | rfl | simp [lv_args, m_cat, m_ci, m_cl, m_cf, m_cd, m_cr]) (by first | exact Nat.le_of_ble_eq_true rfl | simp [lg_sl, m_cat, m_ci, m_cl, m_cf, m_cd, m_cr]) ?_
  intro p e R s m args below meth c ws0 wsf rr cx hE ws H locs cells slots ls hl hH hF
  obtain ⟨hx, hb, hr, hml, hown, hk, hz, hlocks, hnm, hfr, hlo⟩ := id cx
  unfold F_X6_middle at hF
  refine lv_iconst (v := (0)) hx hb dX6_middle_0 (by decide) ?_
  refine lv_istore_n (lv' := [(1, .int (0 : Int32)), (0, .ref o)]) hx hb dX6_middle_1 rfl hl (by decide) (by first | rfl | simp [m_cat, m_ci, m_cl, m_cf, m_cd, m_cr]) (fun ls hl => ?_)
  refine w_X6_middle_2 cx hE o _ (fun ws H locs cells slots ls hl hH hF => ?_) _ _ _ _ _ _ _ _ (lv_sub hl [1, 0] rfl) hH hF
  refine lv_aload_n hx hb dX6_middle_77 rfl (lv_at hl 0 rfl) ?_
  refine m_gR hx hb hown hk hH hF fk_RX6_bySize lk_RX6_15 dX6_middle_78 (fun v17 hF => ?_)
  refine lv_aload_n hx hb dX6_middle_81 rfl (lv_at hl 0 rfl) ?_
  refine m_gI hx hb hown hk hH hF fk_RX6_size lk_RX6_29 dX6_middle_82 (fun v18 hF => ?_)
  refine lv_iconst (v := (1)) hx hb dX6_middle_85 (by decide) ?_
  refine lv_isub hx hb dX6_middle_86 ?_
  refine lv_iconst (v := (2)) hx hb dX6_middle_87 (by decide) ?_
  refine lv_idiv hx hb dX6_middle_88 (by decide) ?_
  refine m_aI0 hx hb hk hH hF dX6_middle_89 (fun v19 hF => ?_)
  exact m_iret hx hb hr hlocks hH hE hF rfl dX6_middle_90

def F_X6_filtered (o : Nat) (x1 : Int32) : St (Int32) :=
  bd (gI [5] 3 (some o)) fun v1 => bd (rt v1) fun w2 => br (w2 = (1)) (bd (dr [5] (some o)) fun q4 => bd (F_X6_middle q4.1) fun c3 => rt c3) (br (w2 = (2)) (bd (dr [5] (some o)) fun q6 => bd (F_X6_mean q6.1) fun c5 => rt c5) (rt x1))
set_option maxHeartbeats 4000000 in
set_option maxRecDepth 100000 in
theorem t_X6_filtered (l : Launch) (D : va_G) (cy : Nat → ClassId) (z : Nat) (o : Nat) (x1 : Int32) : MT l D cy z yX6_filtered cX6_filtered 2 (some .int) 3 91 (F_X6_filtered o x1) vI [.ref o, .int x1] := by
  refine m_enter [(0, .ref o), (1, .int x1)] (by decide) (by first | rfl | simp [lv_args, m_cat, m_ci, m_cl, m_cf, m_cd, m_cr]) (by first | exact Nat.le_of_ble_eq_true rfl | simp [lg_sl, m_cat, m_ci, m_cl, m_cf, m_cd, m_cr]) ?_
  intro p e R s m args below meth c ws0 wsf rr cx hE ws H locs cells slots ls hl hH hF
  obtain ⟨hx, hb, hr, hml, hown, hk, hz, hlocks, hnm, hfr, hlo⟩ := id cx
  unfold F_X6_filtered at hF
  refine lv_aload_n hx hb dX6_filtered_0 rfl (lv_at hl 0 rfl) ?_
  refine m_gI hx hb hown hk hH hF fk_RX6_filter lk_RX6_22 dX6_filtered_1 (fun v1 hF => ?_)
  refine lv_topi (fun w2 hw2 => ?_)
  have hF := rt_t hw2 hF
  by_cases hkw2_1 : w2 = (1)
  · have hF := bq_t hkw2_1 hF
    refine lv_lookup (off := 28) (tgt := 32) hx hb dX6_filtered_4 (by decide) (by rw [hkw2_1]; decide) (by decide) ?_
    refine lv_aload_n hx hb dX6_filtered_32 rfl (lv_at hl 0 rfl) ?_
    refine m_cVI hx hb hml hown hk hH hE.le hz (F := fun q4 => F_X6_middle q4.1) (C := RX6) (T := TX6) (N := 7) rfl (As := []) (rest := []) (fun o => t_X6_middle l D cy z o) hF wd_599 wd_601 wd_37 wd_602 wd_10 yn_X6_middle ⟨Nat.le_trans (by decide) hfr, Nat.le_trans (by decide) hlo⟩ hl.1 (by first | exact Nat.le_of_ble_eq_true rfl | simp [m_cat, m_ci, m_cl, m_cf, m_cd, m_cr]) rfl dX6_filtered_33 (fun c3 ws H locs cells slots hH hF => ?_)
    exact m_iret hx hb hr hlocks hH hE hF rfl dX6_filtered_36
  · have hF := bq_f hkw2_1 hF
    by_cases hkw2_2 : w2 = (2)
    · have hF := bq_t hkw2_2 hF
      refine lv_lookup (off := 33) (tgt := 37) hx hb dX6_filtered_4 (by decide) (by rw [hkw2_2]; decide) (by decide) ?_
      refine lv_aload_n hx hb dX6_filtered_37 rfl (lv_at hl 0 rfl) ?_
      refine m_cVI hx hb hml hown hk hH hE.le hz (F := fun q6 => F_X6_mean q6.1) (C := RX6) (T := TX6) (N := 7) rfl (As := []) (rest := []) (fun o => t_X6_mean l D cy z o) hF wd_603 wd_605 wd_37 wd_606 wd_11 yn_X6_mean ⟨Nat.le_trans (by decide) hfr, Nat.le_trans (by decide) hlo⟩ hl.1 (by first | exact Nat.le_of_ble_eq_true rfl | simp [m_cat, m_ci, m_cl, m_cf, m_cd, m_cr]) rfl dX6_filtered_38 (fun c5 ws H locs cells slots hH hF => ?_)
      exact m_iret hx hb hr hlocks hH hE hF rfl dX6_filtered_41
    · have hF := bq_f hkw2_2 hF
      refine lv_lookup (off := 38) (tgt := 42) hx hb dX6_filtered_4 (by decide) (by show Op.lookupswitch.offset [(1, 28), (2, 33)] 38 w2.toInt = 38; rw [lv_osw hkw2_1 (by decide), lv_osw hkw2_2 (by decide)]; rfl) (by decide) ?_
      refine lv_iload_n hx hb dX6_filtered_42 rfl (lv_at hl 1 rfl) ?_
      exact m_iret hx hb hr hlocks hH hE hF rfl dX6_filtered_43

def j_X6_take_51 (x0 : Nat) (x1 : Int32) : St (Int32) :=
  bd (gR [5] 0 (some x0)) fun v4 => bd (gI [5] 5 (some x0)) fun v5 => bd (sI 0 v4 v5 x1) fun _ => bd (gI [5] 5 (some x0)) fun v6 => bd (pV [5] 5 (some x0) (.int (v6 + (1 : Int32)))) fun _ => bd (dr [5] (some x0)) fun q8 => bd (F_X6_filtered q8.1 x1) fun c7 => bd (pV [5] 6 (some x0) (.int c7)) fun _ => bd (gI [5] 6 (some x0)) fun v9 => rt v9
def b_X6_take_13 (x0 : Nat) (x1 : Int32) (rec : Int32 → St (Int32)) (k : St (Int32)) (x2 : Int32) : St (Int32) :=
  bd (gI [5] 5 (some x0)) fun v10 => br (v10 ≤ x2) (k) (bd (gR [5] 0 (some x0)) fun v12 => bd (gR [5] 0 (some x0)) fun v13 => bd (aI 0 v13 x2) fun v14 => bd (sI 0 v12 (x2 - (1 : Int32)) v14) fun _ => rec (x2 + (1 : Int32)))
def l_X6_take_13 (x0 : Nat) (x1 : Int32) (k : St (Int32)) : Nat → Int32 → St (Int32)
  | 0 => fun _ => fl
  | n + 1 => fun x2 => b_X6_take_13 x0 x1 (l_X6_take_13 x0 x1 k n) k x2
def F_X6_take (o : Nat) (x1 : Int32) : St (Int32) :=
  bd (gI [5] 5 (some o)) fun v1 => bd (gI [5] 4 (some o)) fun v2 => br (v1 < v2) (j_X6_take_51 o x1) (l_X6_take_13 o x1 (bd (gI [5] 5 (some o)) fun v15 => bd (pV [5] 5 (some o) (.int (v15 - (1 : Int32)))) fun _ => j_X6_take_51 o x1) FU (1 : Int32))
set_option maxHeartbeats 4000000 in
set_option maxRecDepth 100000 in
theorem w_X6_take_51 {l : Launch} {D : va_G} {cy : Nat → ClassId} {z : Nat} {p : Program} {e : Env} {R : Room} {s : State} {m : MethodId} {args : Array Value} {below : List Frame} {meth : Method} {c : Code} {ws0 wsf : WS} {rr : Int32} (cx : Cx D cy z RX6 cX6_take 3 (some .int) 4 112 "take" p R s m meth c) (hE : AC ws0 wsf R.cells R.slots) (x0 : Nat) (x1 : Int32) : At_ l D cy z p e R s m args below meth c ws0 wsf vI rr 3 51 [(0, .ref x0), (1, .int x1)] [] (j_X6_take_51 x0 x1) := by
  intro ws H locs cells slots ls hl hH hF
  obtain ⟨hx, hb, hr, hml, hown, hk, hz, hlocks, hnm, hfr, hlo⟩ := id cx
  unfold j_X6_take_51 at hF
  refine lv_aload_n hx hb dX6_take_51 rfl (lv_at hl 0 rfl) ?_
  refine m_gR hx hb hown hk hH hF fk_RX6_fed lk_RX6_9 dX6_take_52 (fun v4 hF => ?_)
  refine lv_aload_n hx hb dX6_take_55 rfl (lv_at hl 0 rfl) ?_
  refine m_gI hx hb hown hk hH hF fk_RX6_size lk_RX6_29 dX6_take_56 (fun v5 hF => ?_)
  refine lv_iload_n hx hb dX6_take_59 rfl (lv_at hl 1 rfl) ?_
  refine m_sI0 hx hb hk hH hF dX6_take_60 (fun ws H locs hH hF => ?_)
  refine lv_aload_n hx hb dX6_take_61 rfl (lv_at hl 0 rfl) ?_
  refine lv_dup hx hb dX6_take_62 rfl ?_
  refine m_gI hx hb hown hk hH hF fk_RX6_size lk_RX6_29 dX6_take_63 (fun v6 hF => ?_)
  refine lv_iconst (v := (1)) hx hb dX6_take_66 (by decide) ?_
  refine lv_iadd hx hb dX6_take_67 ?_
  refine m_pV hx hb hown hk hH hF fk_RX6_size lk_RX6_29 pd_9 rfl rfl dX6_take_68 (fun ws H locs hH hF => ?_)
  refine lv_aload_n hx hb dX6_take_71 rfl (lv_at hl 0 rfl) ?_
  refine lv_aload_n hx hb dX6_take_72 rfl (lv_at hl 0 rfl) ?_
  refine lv_iload_n hx hb dX6_take_73 rfl (lv_at hl 1 rfl) ?_
  refine m_cVI hx hb hml hown hk hH hE.le hz (F := fun q8 => F_X6_filtered q8.1 x1) (C := RX6) (T := TX6) (N := 7) rfl (As := [.int x1]) (rest := [.ref x0]) (fun o => t_X6_filtered l D cy z o x1) hF wd_595 wd_597 wd_37 wd_598 wd_9 yn_X6_filtered ⟨Nat.le_trans (by decide) hfr, Nat.le_trans (by decide) hlo⟩ hl.1 (by first | exact Nat.le_of_ble_eq_true rfl | simp [m_cat, m_ci, m_cl, m_cf, m_cd, m_cr]) rfl dX6_take_74 (fun c7 ws H locs cells slots hH hF => ?_)
  refine m_pV hx hb hown hk hH hF fk_RX6_given lk_RX6_32 pd_9 rfl rfl dX6_take_77 (fun ws H locs hH hF => ?_)
  refine lv_aload_n hx hb dX6_take_80 rfl (lv_at hl 0 rfl) ?_
  refine m_gI hx hb hown hk hH hF fk_RX6_given lk_RX6_32 dX6_take_81 (fun v9 hF => ?_)
  exact m_iret hx hb hr hlocks hH hE hF rfl dX6_take_84
set_option maxHeartbeats 4000000 in
set_option maxRecDepth 100000 in
theorem wb_X6_take_13 {l : Launch} {D : va_G} {cy : Nat → ClassId} {z : Nat} {p : Program} {e : Env} {R : Room} {s : State} {m : MethodId} {args : Array Value} {below : List Frame} {meth : Method} {c : Code} {ws0 wsf : WS} {rr : Int32} (cx : Cx D cy z RX6 cX6_take 3 (some .int) 4 112 "take" p R s m meth c) (hE : AC ws0 wsf R.cells R.slots) (x0 : Nat) (x1 : Int32) (rec : Int32 → St (Int32)) (k : St (Int32)) (hrec : ∀ (x2 : Int32), At_ l D cy z p e R s m args below meth c ws0 wsf vI rr 3 13 [(0, .ref x0), (1, .int x1), (2, .int x2)] [] (rec x2)) (hkk : At_ l D cy z p e R s m args below meth c ws0 wsf vI rr 3 41 [(0, .ref x0), (1, .int x1)] [] (k)) (x2 : Int32) : At_ l D cy z p e R s m args below meth c ws0 wsf vI rr 3 13 [(0, .ref x0), (1, .int x1), (2, .int x2)] [] (b_X6_take_13 x0 x1 rec k x2) := by
  intro ws H locs cells slots ls hl hH hF
  obtain ⟨hx, hb, hr, hml, hown, hk, hz, hlocks, hnm, hfr, hlo⟩ := id cx
  unfold b_X6_take_13 at hF
  refine lv_iload_n hx hb dX6_take_13 rfl (lv_at hl 2 rfl) ?_
  refine lv_aload_n hx hb dX6_take_14 rfl (lv_at hl 0 rfl) ?_
  refine m_gI hx hb hown hk hH hF fk_RX6_size lk_RX6_29 dX6_take_15 (fun v10 hF => ?_)
  refine lv_icmp_ge (tgt := 41) hx hb dX6_take_18 (by decide) (fun hc10 => ?_) (fun hc10 => ?_)
  · have hF := bq_t hc10 hF
    exact hkk _ _ _ _ _ _ (lv_sub hl [0, 1] rfl) hH hF
  · have hF := bq_f hc10 hF
    refine lv_aload_n hx hb dX6_take_21 rfl (lv_at hl 0 rfl) ?_
    refine m_gR hx hb hown hk hH hF fk_RX6_fed lk_RX6_9 dX6_take_22 (fun v12 hF => ?_)
    refine lv_iload_n hx hb dX6_take_25 rfl (lv_at hl 2 rfl) ?_
    refine lv_iconst (v := (1)) hx hb dX6_take_26 (by decide) ?_
    refine lv_isub hx hb dX6_take_27 ?_
    refine lv_aload_n hx hb dX6_take_28 rfl (lv_at hl 0 rfl) ?_
    refine m_gR hx hb hown hk hH hF fk_RX6_fed lk_RX6_9 dX6_take_29 (fun v13 hF => ?_)
    refine lv_iload_n hx hb dX6_take_32 rfl (lv_at hl 2 rfl) ?_
    refine m_aI0 hx hb hk hH hF dX6_take_33 (fun v14 hF => ?_)
    refine m_sI0 hx hb hk hH hF dX6_take_34 (fun ws H locs hH hF => ?_)
    refine lv_iinc (v := (x2 + (1 : Int32))) (lv' := [(2, .int (x2 + (1 : Int32))), (0, .ref x0), (1, .int x1)]) hx hb dX6_take_35 hl (k := 2) rfl (by first | rfl | (congr 1)) (by decide) (by first | rfl | simp [m_cat, m_ci, m_cl, m_cf, m_cd, m_cr]) (fun ls hl => ?_)
    refine lv_goto (tgt := 13) hx hb dX6_take_38 (by decide) ?_
    exact hrec _ _ _ _ _ _ _ (lv_sub hl [1, 2, 0] rfl) hH hF
theorem w_X6_take_13 {l : Launch} {D : va_G} {cy : Nat → ClassId} {z : Nat} {p : Program} {e : Env} {R : Room} {s : State} {m : MethodId} {args : Array Value} {below : List Frame} {meth : Method} {c : Code} {ws0 wsf : WS} {rr : Int32} (cx : Cx D cy z RX6 cX6_take 3 (some .int) 4 112 "take" p R s m meth c) (hE : AC ws0 wsf R.cells R.slots) (x0 : Nat) (x1 : Int32) (k : St (Int32)) (hkk : At_ l D cy z p e R s m args below meth c ws0 wsf vI rr 3 41 [(0, .ref x0), (1, .int x1)] [] (k)) : ∀ (n : Nat) (x2 : Int32), At_ l D cy z p e R s m args below meth c ws0 wsf vI rr 3 13 [(0, .ref x0), (1, .int x1), (2, .int x2)] [] (l_X6_take_13 x0 x1 k n x2) := by
  intro n
  induction n with
  | zero =>
    intro x2 ws H locs cells slots ls hl hH hF
    exact fl_t hF
  | succ n ih =>
    intro x2
    exact wb_X6_take_13 cx hE x0 x1 (l_X6_take_13 x0 x1 k n) k ih hkk x2
set_option maxHeartbeats 4000000 in
set_option maxRecDepth 100000 in
theorem t_X6_take (l : Launch) (D : va_G) (cy : Nat → ClassId) (z : Nat) (o : Nat) (x1 : Int32) : MT l D cy z yX6_take cX6_take 3 (some .int) 4 112 (F_X6_take o x1) vI [.ref o, .int x1] := by
  refine m_enter [(0, .ref o), (1, .int x1)] (by decide) (by first | rfl | simp [lv_args, m_cat, m_ci, m_cl, m_cf, m_cd, m_cr]) (by first | exact Nat.le_of_ble_eq_true rfl | simp [lg_sl, m_cat, m_ci, m_cl, m_cf, m_cd, m_cr]) ?_
  intro p e R s m args below meth c ws0 wsf rr cx hE ws H locs cells slots ls hl hH hF
  obtain ⟨hx, hb, hr, hml, hown, hk, hz, hlocks, hnm, hfr, hlo⟩ := id cx
  unfold F_X6_take at hF
  refine lv_aload_n hx hb dX6_take_0 rfl (lv_at hl 0 rfl) ?_
  refine m_gI hx hb hown hk hH hF fk_RX6_size lk_RX6_29 dX6_take_1 (fun v1 hF => ?_)
  refine lv_aload_n hx hb dX6_take_4 rfl (lv_at hl 0 rfl) ?_
  refine m_gI hx hb hown hk hH hF fk_RX6_window lk_RX6_26 dX6_take_5 (fun v2 hF => ?_)
  refine lv_icmp_lt (tgt := 51) hx hb dX6_take_8 (by decide) (fun hc2 => ?_) (fun hc2 => ?_)
  · have hF := bq_t hc2 hF
    exact w_X6_take_51 cx hE o x1 _ _ _ _ _ _ (lv_sub hl [0, 1] rfl) hH hF
  · have hF := bq_f hc2 hF
    refine lv_iconst (v := (1)) hx hb dX6_take_11 (by decide) ?_
    refine lv_istore_n (lv' := [(2, .int (1 : Int32)), (0, .ref o), (1, .int x1)]) hx hb dX6_take_12 rfl hl (by decide) (by first | rfl | simp [m_cat, m_ci, m_cl, m_cf, m_cd, m_cr]) (fun ls hl => ?_)
    refine w_X6_take_13 cx hE o x1 _ (fun ws H locs cells slots ls hl hH hF => ?_) _ _ _ _ _ _ _ _ (lv_sub hl [1, 2, 0] rfl) hH hF
    refine lv_aload_n hx hb dX6_take_41 rfl (lv_at hl 0 rfl) ?_
    refine lv_dup hx hb dX6_take_42 rfl ?_
    refine m_gI hx hb hown hk hH hF fk_RX6_size lk_RX6_29 dX6_take_43 (fun v15 hF => ?_)
    refine lv_iconst (v := (1)) hx hb dX6_take_46 (by decide) ?_
    refine lv_isub hx hb dX6_take_47 ?_
    refine m_pV hx hb hown hk hH hF fk_RX6_size lk_RX6_29 pd_9 rfl rfl dX6_take_48 (fun ws H locs hH hF => ?_)
    exact w_X6_take_51 cx hE o x1 _ _ _ _ _ _ (lv_sub hl [0, 1] rfl) hH hF

def F_X6_told (o : Nat) : St (Int32) :=
  bd (gR [5] 2 (some o)) fun v1 => br (v1 = none) (rt (-2000000 : Int32)) (bd (gI [5] 5 (some o)) fun v3 => br (v3 = 0) (rt (-2000000 : Int32)) (bd (gR [5] 2 (some o)) fun v5 => bd (gI [5] 6 (some o)) fun v6 => bd (dr [3, 4, 6] v5) fun q8 => bd (F_X1_at 64 q8.1 v6) fun c7 => rt c7))
set_option maxHeartbeats 4000000 in
set_option maxRecDepth 100000 in
theorem t_X6_told (l : Launch) (D : va_G) (cy : Nat → ClassId) (z : Nat) (o : Nat) : MT l D cy z yX6_told cX6_told 1 (some .int) 326 9921 (F_X6_told o) vI [.ref o] := by
  refine m_enter [(0, .ref o)] (by decide) (by first | rfl | simp [lv_args, m_cat, m_ci, m_cl, m_cf, m_cd, m_cr]) (by first | exact Nat.le_of_ble_eq_true rfl | simp [lg_sl, m_cat, m_ci, m_cl, m_cf, m_cd, m_cr]) ?_
  intro p e R s m args below meth c ws0 wsf rr cx hE ws H locs cells slots ls hl hH hF
  obtain ⟨hx, hb, hr, hml, hown, hk, hz, hlocks, hnm, hfr, hlo⟩ := id cx
  unfold F_X6_told at hF
  refine lv_aload_n hx hb dX6_told_0 rfl (lv_at hl 0 rfl) ?_
  refine m_gR hx hb hown hk hH hF fk_RX6_curve lk_RX6_18 dX6_told_1 (fun v1 hF => ?_)
  refine m_ifnull (tgt := 14) hx hb dX6_told_4 (by decide) (fun hc1 => ?_) (fun hc1 => ?_)
  · have hF := bq_t hc1 hF
    refine lv_ldc hx hb hown (hk.wd wd_616 args) dX6_told_14 ?_
    refine lv_goto (tgt := 30) hx hb dX6_told_16 (by decide) ?_
    exact m_iret hx hb hr hlocks hH hE hF rfl dX6_told_30
  · have hF := bq_f hc1 hF
    refine lv_aload_n hx hb dX6_told_7 rfl (lv_at hl 0 rfl) ?_
    refine m_gI hx hb hown hk hH hF fk_RX6_size lk_RX6_29 dX6_told_8 (fun v3 hF => ?_)
    refine lv_if_ne (tgt := 19) hx hb dX6_told_11 (by decide) (fun hc3 => ?_) (fun hc3 => ?_)
    · have hF := bq_f hc3 hF
      refine lv_aload_n hx hb dX6_told_19 rfl (lv_at hl 0 rfl) ?_
      refine m_gR hx hb hown hk hH hF fk_RX6_curve lk_RX6_18 dX6_told_20 (fun v5 hF => ?_)
      refine lv_aload_n hx hb dX6_told_23 rfl (lv_at hl 0 rfl) ?_
      refine m_gI hx hb hown hk hH hF fk_RX6_given lk_RX6_32 dX6_told_24 (fun v6 hF => ?_)
      refine m_cUI hx hb hml hown hk hH hE.le hz (x := yX1_at) (owner := "CurveFoundry$Curve") (y := (fun _ => yX1_at)) (bytes := (fun _ => cX1_at)) (maxL := (fun _ => 2)) (fr := (fun _ => 325)) (lo := (fun _ => 9900)) (F := fun q8 => F_X1_at 64 q8.1 v6) (As := [.int v6]) (rest := []) (fun o => m_c3 (t_X1_at l D cy z 64 o v6) (t_X1_at l D cy z 64 o v6) (t_X1_at l D cy z 64 o v6)) hF wd_617 wd_399 (va_Decl.of (hk.wd wd_398 args) (hk.wd wd_403 args)) (m_c3 ⟨_, rfl, wd_400, wd_398, wd_39, wd_403, Nat.le_trans (by decide) hfr, Nat.le_trans (by decide) hlo⟩ ⟨_, rfl, wd_401, wd_398, wd_39, wd_403, Nat.le_trans (by decide) hfr, Nat.le_trans (by decide) hlo⟩ ⟨_, rfl, wd_402, wd_398, wd_39, wd_403, Nat.le_trans (by decide) hfr, Nat.le_trans (by decide) hlo⟩) yc_at hl.1 (by first | exact Nat.le_of_ble_eq_true rfl | simp [m_cat, m_ci, m_cl, m_cf, m_cd, m_cr]) rfl dX6_told_27 (fun c7 ws H locs cells slots hH hF => ?_)
      exact m_iret hx hb hr hlocks hH hE hF rfl dX6_told_30
    · have hF := bq_t hc3 hF
      refine lv_ldc hx hb hown (hk.wd wd_616 args) dX6_told_14 ?_
      refine lv_goto (tgt := 30) hx hb dX6_told_16 (by decide) ?_
      exact m_iret hx hb hr hlocks hH hE hF rfl dX6_told_30

def j_X7_init_20 (x0 : Nat) (x1 : Int32) (x2 : Option Nat) (x3 : Option Nat) (x4 : Int32) (x5 : Int32) (x6 : Int32) (s0 : Nat) (s1 : Int32) (s2 : Int32) (s3 : Int32) : St (Unit) :=
  bd (F_X1_init s0 s1 (s2 + s3)) fun c4 => bd (pV [6] 4 (some x0) (.int x1)) fun _ => bd (pV [6] 5 (some x0) (va_rf x2)) fun _ => bd (pV [6] 6 (some x0) (va_rf x3)) fun _ => bd (pV [6] 7 (some x0) (.int x4)) fun _ => bd (pV [6] 8 (some x0) (.int x5)) fun _ => bd (pV [6] 9 (some x0) (.int x6)) fun _ => rt ()
def F_X7_init (o : Nat) (x1 : Int32) (x2 : Option Nat) (x3 : Option Nat) (x4 : Int32) (x5 : Int32) (x6 : Int32) : St (Unit) :=
  bd (gI [3, 4, 6] 1 x2) fun v1 => br (x3 = none) (j_X7_init_20 o x1 x2 x3 x4 x5 x6 o x1 ((1 : Int32) + v1) (0 : Int32)) (bd (gI [3, 4, 6] 1 x3) fun v3 => j_X7_init_20 o x1 x2 x3 x4 x5 x6 o x1 ((1 : Int32) + v1) v3)
set_option maxHeartbeats 4000000 in
set_option maxRecDepth 100000 in
theorem w_X7_init_20 {l : Launch} {D : va_G} {cy : Nat → ClassId} {z : Nat} {p : Program} {e : Env} {R : Room} {s : State} {m : MethodId} {args : Array Value} {below : List Frame} {meth : Method} {c : Code} {ws0 wsf : WS} {rr : Unit} (cx : Cx D cy z RX7 cX7_init 7 none 2 62 "<init>" p R s m meth c) (hE : AC ws0 wsf R.cells R.slots) (x0 : Nat) (x1 : Int32) (x2 : Option Nat) (x3 : Option Nat) (x4 : Int32) (x5 : Int32) (x6 : Int32) (s0 : Nat) (s1 : Int32) (s2 : Int32) (s3 : Int32) : At_ l D cy z p e R s m args below meth c ws0 wsf vU rr 7 20 [(0, .ref x0), (1, .int x1), (2, va_rf x2), (3, va_rf x3), (4, .int x4), (5, .int x5), (6, .int x6)] [.int s3, .int s2, .int s1, .ref s0] (j_X7_init_20 x0 x1 x2 x3 x4 x5 x6 s0 s1 s2 s3) := by
  intro ws H locs cells slots ls hl hH hF
  obtain ⟨hx, hb, hr, hml, hown, hk, hz, hlocks, hnm, hfr, hlo⟩ := id cx
  unfold j_X7_init_20 at hF
  refine lv_iadd hx hb dX7_init_20 ?_
  refine m_cI hx hb hml hown hk hH hE.le hz (b := s0) (As := [.int s1, .int (s2 + s3)]) (rest := []) (t_X1_init l D cy z s0 s1 (s2 + s3)) hF wd_352 wd_245 wd_39 wd_246 yn_X1_init rfl ⟨Nat.le_trans (by decide) hfr, Nat.le_trans (by decide) hlo⟩ hl.1 (by first | exact Nat.le_of_ble_eq_true rfl | simp [m_cat, m_ci, m_cl, m_cf, m_cd, m_cr]) rfl dX7_init_21 (fun c4 ws H locs cells slots hH hF => ?_)
  refine lv_aload_n hx hb dX7_init_24 rfl (lv_at hl 0 rfl) ?_
  refine lv_iload_n hx hb dX7_init_25 rfl (lv_at hl 1 rfl) ?_
  refine m_pVF hx hb hown hk hH hnm hF fk_RX7_how wd_353 rfl pd_9 rfl rfl dX7_init_26 (fun ws H locs hH hF => ?_)
  refine lv_aload_n hx hb dX7_init_29 rfl (lv_at hl 0 rfl) ?_
  refine m_aload_n hx hb dX7_init_30 rfl (lv_at hl 2 rfl) ?_
  refine m_pVF hx hb hown hk hH hnm hF fk_RX7_of wd_354 rfl pd_12 (m_nrf _ _) (m_frf _ _) dX7_init_31 (fun ws H locs hH hF => ?_)
  refine lv_aload_n hx hb dX7_init_34 rfl (lv_at hl 0 rfl) ?_
  refine m_aload_n hx hb dX7_init_35 rfl (lv_at hl 3 rfl) ?_
  refine m_pVF hx hb hown hk hH hnm hF fk_RX7_outer wd_355 rfl pd_12 (m_nrf _ _) (m_frf _ _) dX7_init_36 (fun ws H locs hH hF => ?_)
  refine lv_aload_n hx hb dX7_init_39 rfl (lv_at hl 0 rfl) ?_
  refine lv_iload hx hb dX7_init_40 (lv_at hl 4 rfl) ?_
  refine m_pVF hx hb hown hk hH hnm hF fk_RX7_first wd_356 rfl pd_9 rfl rfl dX7_init_42 (fun ws H locs hH hF => ?_)
  refine lv_aload_n hx hb dX7_init_45 rfl (lv_at hl 0 rfl) ?_
  refine lv_iload hx hb dX7_init_46 (lv_at hl 5 rfl) ?_
  refine m_pVF hx hb hown hk hH hnm hF fk_RX7_second wd_357 rfl pd_9 rfl rfl dX7_init_48 (fun ws H locs hH hF => ?_)
  refine lv_aload_n hx hb dX7_init_51 rfl (lv_at hl 0 rfl) ?_
  refine lv_iload hx hb dX7_init_52 (lv_at hl 6 rfl) ?_
  refine m_pVF hx hb hown hk hH hnm hF fk_RX7_third wd_358 rfl pd_9 rfl rfl dX7_init_54 (fun ws H locs hH hF => ?_)
  exact m_vret hx hb hr hlocks hH hE hF dX7_init_57
set_option maxHeartbeats 4000000 in
set_option maxRecDepth 100000 in
theorem t_X7_init (l : Launch) (D : va_G) (cy : Nat → ClassId) (z : Nat) (o : Nat) (x1 : Int32) (x2 : Option Nat) (x3 : Option Nat) (x4 : Int32) (x5 : Int32) (x6 : Int32) : MT l D cy z yX7_init cX7_init 7 none 2 62 (F_X7_init o x1 x2 x3 x4 x5 x6) vU [.ref o, .int x1, va_rf x2, va_rf x3, .int x4, .int x5, .int x6] := by
  refine m_enter [(0, .ref o), (1, .int x1), (2, va_rf x2), (3, va_rf x3), (4, .int x4), (5, .int x5), (6, .int x6)] (by decide) (by first | rfl | simp [lv_args, m_cat, m_ci, m_cl, m_cf, m_cd, m_cr]) (by first | exact Nat.le_of_ble_eq_true rfl | simp [lg_sl, m_cat, m_ci, m_cl, m_cf, m_cd, m_cr]) ?_
  intro p e R s m args below meth c ws0 wsf rr cx hE ws H locs cells slots ls hl hH hF
  obtain ⟨hx, hb, hr, hml, hown, hk, hz, hlocks, hnm, hfr, hlo⟩ := id cx
  unfold F_X7_init at hF
  refine lv_aload_n hx hb dX7_init_0 rfl (lv_at hl 0 rfl) ?_
  refine lv_iload_n hx hb dX7_init_1 rfl (lv_at hl 1 rfl) ?_
  refine lv_iconst (v := (1)) hx hb dX7_init_2 (by decide) ?_
  refine m_aload_n hx hb dX7_init_3 rfl (lv_at hl 2 rfl) ?_
  refine m_gI hx hb hown hk hH hF fk_RX1_work lk_RX7_3 dX7_init_4 (fun v1 hF => ?_)
  refine lv_iadd hx hb dX7_init_7 ?_
  refine m_aload_n hx hb dX7_init_8 rfl (lv_at hl 3 rfl) ?_
  refine m_ifnonnull (tgt := 16) hx hb dX7_init_9 (by decide) (fun hc1 => ?_) (fun hc1 => ?_)
  · have hF := bq_f hc1 hF
    refine m_aload_n hx hb dX7_init_16 rfl (lv_at hl 3 rfl) ?_
    refine m_gI hx hb hown hk hH hF fk_RX1_work lk_RX7_3 dX7_init_17 (fun v3 hF => ?_)
    exact w_X7_init_20 cx hE o x1 x2 x3 x4 x5 x6 o x1 ((1 : Int32) + v1) v3 _ _ _ _ _ _ (lv_sub hl [0, 1, 2, 3, 4, 5, 6] rfl) hH hF
  · have hF := bq_t hc1 hF
    refine lv_iconst (v := (0)) hx hb dX7_init_12 (by decide) ?_
    refine lv_goto (tgt := 20) hx hb dX7_init_13 (by decide) ?_
    exact w_X7_init_20 cx hE o x1 x2 x3 x4 x5 x6 o x1 ((1 : Int32) + v1) (0 : Int32) _ _ _ _ _ _ (lv_sub hl [0, 1, 2, 3, 4, 5, 6] rfl) hH hF

def F_X8_init (o : Nat) : St (Unit) :=
  bd (nA 0 (24 : Int32)) fun a1 => bd (pV [7] 0 (some o) (va_rf (some a1))) fun _ => bd (nA 0 (24 : Int32)) fun a2 => bd (pV [7] 1 (some o) (va_rf (some a2))) fun _ => bd (nA 0 (24 : Int32)) fun a3 => bd (pV [7] 2 (some o) (va_rf (some a3))) fun _ => bd (pV [7] 3 (some o) (.int (0 : Int32))) fun _ => rt ()
set_option maxHeartbeats 4000000 in
set_option maxRecDepth 100000 in
theorem t_X8_init (l : Launch) (D : va_G) (cy : Nat → ClassId) (z : Nat) (o : Nat) : MT l D cy z yX8_init cX8_init 1 none 1 40 (F_X8_init o) vU [.ref o] := by
  refine m_enter [(0, .ref o)] (by decide) (by first | rfl | simp [lv_args, m_cat, m_ci, m_cl, m_cf, m_cd, m_cr]) (by first | exact Nat.le_of_ble_eq_true rfl | simp [lg_sl, m_cat, m_ci, m_cl, m_cf, m_cd, m_cr]) ?_
  intro p e R s m args below meth c ws0 wsf rr cx hE ws H locs cells slots ls hl hH hF
  obtain ⟨hx, hb, hr, hml, hown, hk, hz, hlocks, hnm, hfr, hlo⟩ := id cx
  unfold F_X8_init at hF
  refine lv_aload_n hx hb dX8_init_0 rfl (lv_at hl 0 rfl) ?_
  refine W.objInit hx hb hown (hk.wd wd_125 args) (hk.wd wd_52 args) (hk.wd wd_53 args) rfl (by rw [hml]; exact hl.1) rfl dX8_init_1 (Nat.le_trans (by decide) hfr) (Nat.le_trans (m := 40) (by first | exact Nat.le_of_ble_eq_true rfl | simp [m_cat, m_ci, m_cl, m_cf, m_cd, m_cr]) (Nat.le_trans (by decide) hlo)) ?_
  refine W.eq (g2 := F0 m 4 ls []) rfl ?_
  refine lv_aload_n hx hb dX8_init_4 rfl (lv_at hl 0 rfl) ?_
  refine lv_bipush (v := (24)) hx hb dX8_init_5 (by decide) ?_
  refine m_nA (t := 0) hx hb hk hH hE.le hz (by decide) rfl (by decide) wd_96 hF dX8_init_7 (fun a1 ws H hH hF => ?_)
  refine m_pVF hx hb hown hk hH hnm hF fk_RX8_counts wd_126 rfl pd_0 (m_nra _ _) (m_fra _ _) dX8_init_9 (fun ws H locs hH hF => ?_)
  refine lv_aload_n hx hb dX8_init_12 rfl (lv_at hl 0 rfl) ?_
  refine lv_bipush (v := (24)) hx hb dX8_init_13 (by decide) ?_
  refine m_nA (t := 0) hx hb hk hH hE.le hz (by decide) rfl (by decide) wd_96 hF dX8_init_15 (fun a2 ws H hH hF => ?_)
  refine m_pVF hx hb hown hk hH hnm hF fk_RX8_references wd_127 rfl pd_0 (m_nra _ _) (m_fra _ _) dX8_init_17 (fun ws H locs hH hF => ?_)
  refine lv_aload_n hx hb dX8_init_20 rfl (lv_at hl 0 rfl) ?_
  refine lv_bipush (v := (24)) hx hb dX8_init_21 (by decide) ?_
  refine m_nA (t := 0) hx hb hk hH hE.le hz (by decide) rfl (by decide) wd_96 hF dX8_init_23 (fun a3 ws H hH hF => ?_)
  refine m_pVF hx hb hown hk hH hnm hF fk_RX8_weights wd_128 rfl pd_0 (m_nra _ _) (m_fra _ _) dX8_init_25 (fun ws H locs hH hF => ?_)
  refine lv_aload_n hx hb dX8_init_28 rfl (lv_at hl 0 rfl) ?_
  refine lv_iconst (v := (0)) hx hb dX8_init_29 (by decide) ?_
  refine m_pV hx hb hown hk hH hF fk_RX8_size lk_RX8_21 pd_9 rfl rfl dX8_init_30 (fun ws H locs hH hF => ?_)
  exact m_vret hx hb hr hlocks hH hE hF dX8_init_33
