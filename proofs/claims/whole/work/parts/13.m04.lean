def j_X11_worst_76 (rec : Int32 → Int32 → Int32 → St (Int32)) (k : Int32 → St (Int32)) (x0 : Nat) (x1 : Int32) (x2 : Int32) (x3 : Int32) (x4 : Int32) (x5 : Int32) : St (Int32) :=
  rec x3 x4 (x5 + (1 : Int32))
def j_X11_worst_60 (rec : Int32 → Int32 → Int32 → St (Int32)) (k : Int32 → St (Int32)) (x0 : Nat) (x1 : Int32) (x2 : Int32) (x3 : Int32) (x4 : Int32) (x5 : Int32) (s0 : Int32) : St (Int32) :=
  br (s0 ≤ x4) (j_X11_worst_76 rec k x0 x1 x2 x3 x4 x5) (j_X11_worst_76 rec k x0 x1 x2 x5 s0 x5)
def b_X11_worst_26 (x0 : Nat) (x1 : Int32) (x2 : Int32) (rec : Int32 → Int32 → Int32 → St (Int32)) (k : Int32 → St (Int32)) (x3 : Int32) (x4 : Int32) (x5 : Int32) : St (Int32) :=
  bd (gR [10] 0 (some x0)) fun v6 => bd (aI 0 v6 x1) fun v7 => br (v7 ≤ x5) (k x3) (bd (dr [10] (some x0)) fun q10 => bd (F_X11_rest q10.1 x1 x5 x2) fun c9 => br (0 ≤ c9) (j_X11_worst_60 rec k x0 x1 x2 x3 x4 x5 c9) (j_X11_worst_60 rec k x0 x1 x2 x3 x4 x5 (-c9)))
def l_X11_worst_26 (x0 : Nat) (x1 : Int32) (x2 : Int32) (k : Int32 → St (Int32)) : Nat → Int32 → Int32 → Int32 → St (Int32)
  | 0 => fun _ _ _ => fl
  | n + 1 => fun x3 x4 x5 => b_X11_worst_26 x0 x1 x2 (l_X11_worst_26 x0 x1 x2 k n) k x3 x4 x5
def F_X11_worst (o : Nat) (x1 : Int32) (x2 : Int32) : St (Int32) :=
  bd (F_X11_isSensor x1) fun c1 => br (c1 = 0) (rt (-2 : Int32)) (bd (dr [10] (some o)) fun q4 => bd (F_X11_isCurve q4.1 x2) fun c3 => br (c3 = 0) (rt (-2 : Int32)) (l_X11_worst_26 o x1 x2 (fun (e13 : Int32) => rt e13) FU (-1 : Int32) (-1 : Int32) (0 : Int32)))
set_option maxHeartbeats 4000000 in
set_option maxRecDepth 100000 in
theorem w_X11_worst_76 {l : Launch} {D : va_G} {cy : Nat → ClassId} {z : Nat} {p : Program} {e : Env} {R : Room} {s : State} {m : MethodId} {args : Array Value} {below : List Frame} {meth : Method} {c : Code} {ws0 wsf : WS} {rr : Int32} (cx : Cx D cy z RX11 cX11_worst 8 (some .int) 2 63 "worst" p R s m meth c) (hE : AC ws0 wsf R.cells R.slots) (rec : Int32 → Int32 → Int32 → St (Int32)) (k : Int32 → St (Int32)) (x0 : Nat) (x1 : Int32) (x2 : Int32) (hrec : ∀ (x3 : Int32) (x4 : Int32) (x5 : Int32), At_ l D cy z p e R s m args below meth c ws0 wsf vI rr 8 26 [(0, .ref x0), (1, .int x1), (2, .int x2), (3, .int x3), (4, .int x4), (5, .int x5)] [] (rec x3 x4 x5)) (hkk : ∀ (x3 : Int32), At_ l D cy z p e R s m args below meth c ws0 wsf vI rr 8 82 [(3, .int x3)] [] (k x3)) (x3 : Int32) (x4 : Int32) (x5 : Int32) : At_ l D cy z p e R s m args below meth c ws0 wsf vI rr 8 76 [(0, .ref x0), (1, .int x1), (2, .int x2), (3, .int x3), (4, .int x4), (5, .int x5)] [] (j_X11_worst_76 rec k x0 x1 x2 x3 x4 x5) := by
  intro ws H locs cells slots ls hl hH hF
  obtain ⟨hx, hb, hr, hml, hown, hk, hz, hlocks, hnm, hfr, hlo⟩ := id cx
  unfold j_X11_worst_76 at hF
  refine lv_iinc (v := (x5 + (1 : Int32))) (lv' := [(5, .int (x5 + (1 : Int32))), (0, .ref x0), (1, .int x1), (2, .int x2), (3, .int x3), (4, .int x4)]) hx hb dX11_worst_76 hl (k := 5) rfl (by first | rfl | (congr 1)) (by decide) (by first | rfl | simp [m_cat, m_ci, m_cl, m_cf, m_cd, m_cr]) (fun ls hl => ?_)
  refine lv_goto (tgt := 26) hx hb dX11_worst_79 (by decide) ?_
  exact hrec _ _ _ _ _ _ _ _ _ (lv_sub hl [1, 2, 3, 4, 5, 0] rfl) hH hF
set_option maxHeartbeats 4000000 in
set_option maxRecDepth 100000 in
theorem w_X11_worst_60 {l : Launch} {D : va_G} {cy : Nat → ClassId} {z : Nat} {p : Program} {e : Env} {R : Room} {s : State} {m : MethodId} {args : Array Value} {below : List Frame} {meth : Method} {c : Code} {ws0 wsf : WS} {rr : Int32} (cx : Cx D cy z RX11 cX11_worst 8 (some .int) 2 63 "worst" p R s m meth c) (hE : AC ws0 wsf R.cells R.slots) (rec : Int32 → Int32 → Int32 → St (Int32)) (k : Int32 → St (Int32)) (x0 : Nat) (x1 : Int32) (x2 : Int32) (hrec : ∀ (x3 : Int32) (x4 : Int32) (x5 : Int32), At_ l D cy z p e R s m args below meth c ws0 wsf vI rr 8 26 [(0, .ref x0), (1, .int x1), (2, .int x2), (3, .int x3), (4, .int x4), (5, .int x5)] [] (rec x3 x4 x5)) (hkk : ∀ (x3 : Int32), At_ l D cy z p e R s m args below meth c ws0 wsf vI rr 8 82 [(3, .int x3)] [] (k x3)) (x3 : Int32) (x4 : Int32) (x5 : Int32) (s0 : Int32) : At_ l D cy z p e R s m args below meth c ws0 wsf vI rr 8 60 [(0, .ref x0), (1, .int x1), (2, .int x2), (3, .int x3), (4, .int x4), (5, .int x5)] [.int s0] (j_X11_worst_60 rec k x0 x1 x2 x3 x4 x5 s0) := by
  intro ws H locs cells slots ls hl hH hF
  obtain ⟨hx, hb, hr, hml, hown, hk, hz, hlocks, hnm, hfr, hlo⟩ := id cx
  unfold j_X11_worst_60 at hF
  refine lv_istore (lv' := [(7, .int s0), (0, .ref x0), (1, .int x1), (2, .int x2), (3, .int x3), (4, .int x4), (5, .int x5)]) hx hb dX11_worst_60 hl (by decide) (by first | rfl | simp [m_cat, m_ci, m_cl, m_cf, m_cd, m_cr]) (fun ls hl => ?_)
  refine lv_iload hx hb dX11_worst_62 (lv_at hl 0 rfl) ?_
  refine lv_iload hx hb dX11_worst_64 (lv_at hl 5 rfl) ?_
  refine lv_icmp_le (tgt := 76) hx hb dX11_worst_66 (by decide) (fun hc11 => ?_) (fun hc11 => ?_)
  · have hF := bq_t hc11 hF
    exact w_X11_worst_76 cx hE _ _ x0 x1 x2 hrec hkk x3 x4 x5 _ _ _ _ _ _ (lv_sub hl [1, 2, 3, 4, 5, 6] rfl) hH hF
  · have hF := bq_f hc11 hF
    refine lv_iload hx hb dX11_worst_69 (lv_at hl 0 rfl) ?_
    refine lv_istore (lv' := [(4, .int s0), (7, .int s0), (0, .ref x0), (1, .int x1), (2, .int x2), (3, .int x3), (5, .int x5)]) hx hb dX11_worst_71 hl (by decide) (by first | rfl | simp [m_cat, m_ci, m_cl, m_cf, m_cd, m_cr]) (fun ls hl => ?_)
    refine lv_iload hx hb dX11_worst_73 (lv_at hl 6 rfl) ?_
    refine lv_istore_n (lv' := [(3, .int x5), (4, .int s0), (7, .int s0), (0, .ref x0), (1, .int x1), (2, .int x2), (5, .int x5)]) hx hb dX11_worst_75 rfl hl (by decide) (by first | rfl | simp [m_cat, m_ci, m_cl, m_cf, m_cd, m_cr]) (fun ls hl => ?_)
    exact w_X11_worst_76 cx hE _ _ x0 x1 x2 hrec hkk x5 s0 x5 _ _ _ _ _ _ (lv_sub hl [3, 4, 5, 0, 1, 6] rfl) hH hF
set_option maxHeartbeats 4000000 in
set_option maxRecDepth 100000 in
theorem wb_X11_worst_26 {l : Launch} {D : va_G} {cy : Nat → ClassId} {z : Nat} {p : Program} {e : Env} {R : Room} {s : State} {m : MethodId} {args : Array Value} {below : List Frame} {meth : Method} {c : Code} {ws0 wsf : WS} {rr : Int32} (cx : Cx D cy z RX11 cX11_worst 8 (some .int) 2 63 "worst" p R s m meth c) (hE : AC ws0 wsf R.cells R.slots) (x0 : Nat) (x1 : Int32) (x2 : Int32) (rec : Int32 → Int32 → Int32 → St (Int32)) (k : Int32 → St (Int32)) (hrec : ∀ (x3 : Int32) (x4 : Int32) (x5 : Int32), At_ l D cy z p e R s m args below meth c ws0 wsf vI rr 8 26 [(0, .ref x0), (1, .int x1), (2, .int x2), (3, .int x3), (4, .int x4), (5, .int x5)] [] (rec x3 x4 x5)) (hkk : ∀ (x3 : Int32), At_ l D cy z p e R s m args below meth c ws0 wsf vI rr 8 82 [(3, .int x3)] [] (k x3)) (x3 : Int32) (x4 : Int32) (x5 : Int32) : At_ l D cy z p e R s m args below meth c ws0 wsf vI rr 8 26 [(0, .ref x0), (1, .int x1), (2, .int x2), (3, .int x3), (4, .int x4), (5, .int x5)] [] (b_X11_worst_26 x0 x1 x2 rec k x3 x4 x5) := by
  intro ws H locs cells slots ls hl hH hF
  obtain ⟨hx, hb, hr, hml, hown, hk, hz, hlocks, hnm, hfr, hlo⟩ := id cx
  unfold b_X11_worst_26 at hF
  refine lv_iload hx hb dX11_worst_26 (lv_at hl 5 rfl) ?_
  refine lv_aload_n hx hb dX11_worst_28 rfl (lv_at hl 0 rfl) ?_
  refine m_gR hx hb hown hk hH hF fk_RX11_readings lk_RX11_9 dX11_worst_29 (fun v6 hF => ?_)
  refine lv_iload_n hx hb dX11_worst_32 rfl (lv_at hl 1 rfl) ?_
  refine m_aI0 hx hb hk hH hF dX11_worst_33 (fun v7 hF => ?_)
  refine lv_icmp_ge (tgt := 82) hx hb dX11_worst_34 (by decide) (fun hc7 => ?_) (fun hc7 => ?_)
  · have hF := bq_t hc7 hF
    exact hkk _ _ _ _ _ _ _ (lv_sub hl [3] rfl) hH hF
  · have hF := bq_f hc7 hF
    refine lv_aload_n hx hb dX11_worst_37 rfl (lv_at hl 0 rfl) ?_
    refine lv_iload_n hx hb dX11_worst_38 rfl (lv_at hl 1 rfl) ?_
    refine lv_iload hx hb dX11_worst_39 (lv_at hl 5 rfl) ?_
    refine lv_iload_n hx hb dX11_worst_41 rfl (lv_at hl 2 rfl) ?_
    refine m_cVI hx hb hml hown hk hH hE.le hz (F := fun q10 => F_X11_rest q10.1 x1 x5 x2) (C := RX11) (T := TX11) (N := 22) rfl (As := [.int x1, .int x5, .int x2]) (rest := []) (fun o => t_X11_rest l D cy z o x1 x5 x2) hF wd_971 wd_973 wd_38 wd_974 wd_26 yn_X11_rest ⟨Nat.le_trans (by decide) hfr, Nat.le_trans (by decide) hlo⟩ hl.1 (by first | exact Nat.le_of_ble_eq_true rfl | simp [m_cat, m_ci, m_cl, m_cf, m_cd, m_cr]) rfl dX11_worst_42 (fun c9 ws H locs cells slots hH hF => ?_)
    refine lv_istore (lv' := [(6, .int c9), (0, .ref x0), (1, .int x1), (2, .int x2), (3, .int x3), (4, .int x4), (5, .int x5)]) hx hb dX11_worst_45 hl (by decide) (by first | rfl | simp [m_cat, m_ci, m_cl, m_cf, m_cd, m_cr]) (fun ls hl => ?_)
    refine lv_iload hx hb dX11_worst_47 (lv_at hl 0 rfl) ?_
    refine lv_if_ge (tgt := 58) hx hb dX11_worst_49 (by decide) (fun hc10 => ?_) (fun hc10 => ?_)
    · have hF := bq_t hc10 hF
      refine lv_iload hx hb dX11_worst_58 (lv_at hl 0 rfl) ?_
      exact w_X11_worst_60 cx hE _ _ x0 x1 x2 hrec hkk x3 x4 x5 c9 _ _ _ _ _ _ (lv_sub hl [1, 2, 3, 4, 5, 6] rfl) hH hF
    · have hF := bq_f hc10 hF
      refine lv_iload hx hb dX11_worst_52 (lv_at hl 0 rfl) ?_
      refine lv_ineg hx hb dX11_worst_54 ?_
      refine lv_goto (tgt := 60) hx hb dX11_worst_55 (by decide) ?_
      exact w_X11_worst_60 cx hE _ _ x0 x1 x2 hrec hkk x3 x4 x5 (-c9) _ _ _ _ _ _ (lv_sub hl [1, 2, 3, 4, 5, 6] rfl) hH hF
theorem w_X11_worst_26 {l : Launch} {D : va_G} {cy : Nat → ClassId} {z : Nat} {p : Program} {e : Env} {R : Room} {s : State} {m : MethodId} {args : Array Value} {below : List Frame} {meth : Method} {c : Code} {ws0 wsf : WS} {rr : Int32} (cx : Cx D cy z RX11 cX11_worst 8 (some .int) 2 63 "worst" p R s m meth c) (hE : AC ws0 wsf R.cells R.slots) (x0 : Nat) (x1 : Int32) (x2 : Int32) (k : Int32 → St (Int32)) (hkk : ∀ (x3 : Int32), At_ l D cy z p e R s m args below meth c ws0 wsf vI rr 8 82 [(3, .int x3)] [] (k x3)) : ∀ (n : Nat) (x3 : Int32) (x4 : Int32) (x5 : Int32), At_ l D cy z p e R s m args below meth c ws0 wsf vI rr 8 26 [(0, .ref x0), (1, .int x1), (2, .int x2), (3, .int x3), (4, .int x4), (5, .int x5)] [] (l_X11_worst_26 x0 x1 x2 k n x3 x4 x5) := by
  intro n
  induction n with
  | zero =>
    intro x3 x4 x5 ws H locs cells slots ls hl hH hF
    exact fl_t hF
  | succ n ih =>
    intro x3 x4 x5
    exact wb_X11_worst_26 cx hE x0 x1 x2 (l_X11_worst_26 x0 x1 x2 k n) k ih hkk x3 x4 x5
set_option maxHeartbeats 4000000 in
set_option maxRecDepth 100000 in
theorem t_X11_worst (l : Launch) (D : va_G) (cy : Nat → ClassId) (z : Nat) (o : Nat) (x1 : Int32) (x2 : Int32) : MT l D cy z yX11_worst cX11_worst 8 (some .int) 2 63 (F_X11_worst o x1 x2) vI [.ref o, .int x1, .int x2] := by
  refine m_enter [(0, .ref o), (1, .int x1), (2, .int x2)] (by decide) (by first | rfl | simp [lv_args, m_cat, m_ci, m_cl, m_cf, m_cd, m_cr]) (by first | exact Nat.le_of_ble_eq_true rfl | simp [lg_sl, m_cat, m_ci, m_cl, m_cf, m_cd, m_cr]) ?_
  intro p e R s m args below meth c ws0 wsf rr cx hE ws H locs cells slots ls hl hH hF
  obtain ⟨hx, hb, hr, hml, hown, hk, hz, hlocks, hnm, hfr, hlo⟩ := id cx
  unfold F_X11_worst at hF
  refine lv_iload_n hx hb dX11_worst_0 rfl (lv_at hl 1 rfl) ?_
  refine m_cSI hx hb hml hown hk hH hE.le hz (As := [.int x1]) (rest := []) (t_X11_isSensor l D cy z x1) hF wd_843 wd_844 wd_38 wd_845 yn_X11_isSensor ⟨Nat.le_trans (by decide) hfr, Nat.le_trans (by decide) hlo⟩ hl.1 (by first | exact Nat.le_of_ble_eq_true rfl | simp [m_cat, m_ci, m_cl, m_cf, m_cd, m_cr]) rfl dX11_worst_1 (fun c1 ws H locs cells slots hH hF => ?_)
  refine lv_if_eq (tgt := 15) hx hb dX11_worst_4 (by decide) (fun hc1 => ?_) (fun hc1 => ?_)
  · have hF := bq_t hc1 hF
    refine lv_bipush (v := (-2)) hx hb dX11_worst_15 (by decide) ?_
    exact m_iret hx hb hr hlocks hH hE hF rfl dX11_worst_17
  · have hF := bq_f hc1 hF
    refine lv_aload_n hx hb dX11_worst_7 rfl (lv_at hl 0 rfl) ?_
    refine lv_iload_n hx hb dX11_worst_8 rfl (lv_at hl 2 rfl) ?_
    refine m_cVI hx hb hml hown hk hH hE.le hz (F := fun q4 => F_X11_isCurve q4.1 x2) (C := RX11) (T := TX11) (N := 22) rfl (As := [.int x2]) (rest := []) (fun o => t_X11_isCurve l D cy z o x2) hF wd_903 wd_905 wd_38 wd_906 wd_19 yn_X11_isCurve ⟨Nat.le_trans (by decide) hfr, Nat.le_trans (by decide) hlo⟩ hl.1 (by first | exact Nat.le_of_ble_eq_true rfl | simp [m_cat, m_ci, m_cl, m_cf, m_cd, m_cr]) rfl dX11_worst_9 (fun c3 ws H locs cells slots hH hF => ?_)
    refine lv_if_ne (tgt := 18) hx hb dX11_worst_12 (by decide) (fun hc4 => ?_) (fun hc4 => ?_)
    · have hF := bq_f hc4 hF
      refine lv_iconst (v := (-1)) hx hb dX11_worst_18 (by decide) ?_
      refine lv_istore_n (lv' := [(3, .int (-1 : Int32)), (0, .ref o), (1, .int x1), (2, .int x2)]) hx hb dX11_worst_19 rfl hl (by decide) (by first | rfl | simp [m_cat, m_ci, m_cl, m_cf, m_cd, m_cr]) (fun ls hl => ?_)
      refine lv_iconst (v := (-1)) hx hb dX11_worst_20 (by decide) ?_
      refine lv_istore (lv' := [(4, .int (-1 : Int32)), (3, .int (-1 : Int32)), (0, .ref o), (1, .int x1), (2, .int x2)]) hx hb dX11_worst_21 hl (by decide) (by first | rfl | simp [m_cat, m_ci, m_cl, m_cf, m_cd, m_cr]) (fun ls hl => ?_)
      refine lv_iconst (v := (0)) hx hb dX11_worst_23 (by decide) ?_
      refine lv_istore (lv' := [(5, .int (0 : Int32)), (4, .int (-1 : Int32)), (3, .int (-1 : Int32)), (0, .ref o), (1, .int x1), (2, .int x2)]) hx hb dX11_worst_24 hl (by decide) (by first | rfl | simp [m_cat, m_ci, m_cl, m_cf, m_cd, m_cr]) (fun ls hl => ?_)
      refine w_X11_worst_26 cx hE o x1 x2 _ (fun e13 ws H locs cells slots ls hl hH hF => ?_) _ _ _ _ _ _ _ _ _ _ (lv_sub hl [3, 4, 5, 2, 1, 0] rfl) hH hF
      refine lv_iload_n hx hb dX11_worst_82 rfl (lv_at hl 0 rfl) ?_
      exact m_iret hx hb hr hlocks hH hE hF rfl dX11_worst_83
    · have hF := bq_t hc4 hF
      refine lv_bipush (v := (-2)) hx hb dX11_worst_15 (by decide) ?_
      exact m_iret hx hb hr hlocks hH hE hF rfl dX11_worst_17

def b_X11_squares_24 (x0 : Nat) (x1 : Int32) (x2 : Int32) (rec : Int64 → Int32 → St (Int64)) (k : Int64 → St (Int64)) (x3 : Int64) (x5 : Int32) : St (Int64) :=
  bd (gR [10] 0 (some x0)) fun v6 => bd (aI 0 v6 x1) fun v7 => br (v7 ≤ x5) (k x3) (bd (dr [10] (some x0)) fun q10 => bd (F_X11_rest q10.1 x1 x5 x2) fun c9 => bd (gR [10] 3 (some x0)) fun v11 => bd (aI 0 v11 (((24 : Int32) * x1) + x5)) fun v12 => bd (rt (x3 + ((v12.toInt64 * c9.toInt64) * c9.toInt64))) fun v13 => rec v13 (x5 + (1 : Int32)))
def l_X11_squares_24 (x0 : Nat) (x1 : Int32) (x2 : Int32) (k : Int64 → St (Int64)) : Nat → Int64 → Int32 → St (Int64)
  | 0 => fun _ _ => fl
  | n + 1 => fun x3 x5 => b_X11_squares_24 x0 x1 x2 (l_X11_squares_24 x0 x1 x2 k n) k x3 x5
def F_X11_squares (o : Nat) (x1 : Int32) (x2 : Int32) : St (Int64) :=
  bd (F_X11_isSensor x1) fun c1 => br (c1 = 0) (rt (-2 : Int64)) (bd (dr [10] (some o)) fun q4 => bd (F_X11_isCurve q4.1 x2) fun c3 => br (c3 = 0) (rt (-2 : Int64)) (l_X11_squares_24 o x1 x2 (fun (e14 : Int64) => rt e14) FU (0 : Int64) (0 : Int32)))
set_option maxHeartbeats 4000000 in
set_option maxRecDepth 100000 in
theorem wb_X11_squares_24 {l : Launch} {D : va_G} {cy : Nat → ClassId} {z : Nat} {p : Program} {e : Env} {R : Room} {s : State} {m : MethodId} {args : Array Value} {below : List Frame} {meth : Method} {c : Code} {ws0 wsf : WS} {rr : Int64} (cx : Cx D cy z RX11 cX11_squares 8 (some .long) 2 63 "squares" p R s m meth c) (hE : AC ws0 wsf R.cells R.slots) (x0 : Nat) (x1 : Int32) (x2 : Int32) (rec : Int64 → Int32 → St (Int64)) (k : Int64 → St (Int64)) (hrec : ∀ (x3 : Int64) (x5 : Int32), At_ l D cy z p e R s m args below meth c ws0 wsf vL rr 8 24 [(0, .ref x0), (1, .int x1), (2, .int x2), (3, .long x3), (5, .int x5)] [] (rec x3 x5)) (hkk : ∀ (x3 : Int64), At_ l D cy z p e R s m args below meth c ws0 wsf vL rr 8 74 [(3, .long x3)] [] (k x3)) (x3 : Int64) (x5 : Int32) : At_ l D cy z p e R s m args below meth c ws0 wsf vL rr 8 24 [(0, .ref x0), (1, .int x1), (2, .int x2), (3, .long x3), (5, .int x5)] [] (b_X11_squares_24 x0 x1 x2 rec k x3 x5) := by
  intro ws H locs cells slots ls hl hH hF
  obtain ⟨hx, hb, hr, hml, hown, hk, hz, hlocks, hnm, hfr, hlo⟩ := id cx
  unfold b_X11_squares_24 at hF
  refine lv_iload hx hb dX11_squares_24 (lv_at hl 4 rfl) ?_
  refine lv_aload_n hx hb dX11_squares_26 rfl (lv_at hl 0 rfl) ?_
  refine m_gR hx hb hown hk hH hF fk_RX11_readings lk_RX11_9 dX11_squares_27 (fun v6 hF => ?_)
  refine lv_iload_n hx hb dX11_squares_30 rfl (lv_at hl 1 rfl) ?_
  refine m_aI0 hx hb hk hH hF dX11_squares_31 (fun v7 hF => ?_)
  refine lv_icmp_ge (tgt := 74) hx hb dX11_squares_32 (by decide) (fun hc7 => ?_) (fun hc7 => ?_)
  · have hF := bq_t hc7 hF
    exact hkk _ _ _ _ _ _ _ (lv_sub hl [3] rfl) hH hF
  · have hF := bq_f hc7 hF
    refine lv_aload_n hx hb dX11_squares_35 rfl (lv_at hl 0 rfl) ?_
    refine lv_iload_n hx hb dX11_squares_36 rfl (lv_at hl 1 rfl) ?_
    refine lv_iload hx hb dX11_squares_37 (lv_at hl 4 rfl) ?_
    refine lv_iload_n hx hb dX11_squares_39 rfl (lv_at hl 2 rfl) ?_
    refine m_cVI hx hb hml hown hk hH hE.le hz (F := fun q10 => F_X11_rest q10.1 x1 x5 x2) (C := RX11) (T := TX11) (N := 22) rfl (As := [.int x1, .int x5, .int x2]) (rest := []) (fun o => t_X11_rest l D cy z o x1 x5 x2) hF wd_971 wd_973 wd_38 wd_974 wd_26 yn_X11_rest ⟨Nat.le_trans (by decide) hfr, Nat.le_trans (by decide) hlo⟩ hl.1 (by first | exact Nat.le_of_ble_eq_true rfl | simp [m_cat, m_ci, m_cl, m_cf, m_cd, m_cr]) rfl dX11_squares_40 (fun c9 ws H locs cells slots hH hF => ?_)
    refine lv_i2l hx hb dX11_squares_43 rfl ?_
    refine lv_lstore (lv' := [(6, .long c9.toInt64), (0, .ref x0), (1, .int x1), (2, .int x2), (3, .long x3), (5, .int x5)]) hx hb dX11_squares_44 hl (by decide) (by first | rfl | simp [m_cat, m_ci, m_cl, m_cf, m_cd, m_cr]) (fun ls hl => ?_)
    refine lv_lload_n hx hb dX11_squares_46 rfl (lv_at hl 4 rfl) ?_
    refine lv_aload_n hx hb dX11_squares_47 rfl (lv_at hl 1 rfl) ?_
    refine m_gR hx hb hown hk hH hF fk_RX11_weight lk_RX11_19 dX11_squares_48 (fun v11 hF => ?_)
    refine lv_bipush (v := (24)) hx hb dX11_squares_51 (by decide) ?_
    refine lv_iload_n hx hb dX11_squares_53 rfl (lv_at hl 2 rfl) ?_
    refine lv_imul hx hb dX11_squares_54 ?_
    refine lv_iload hx hb dX11_squares_55 (lv_at hl 5 rfl) ?_
    refine lv_iadd hx hb dX11_squares_57 ?_
    refine m_aI0 hx hb hk hH hF dX11_squares_58 (fun v12 hF => ?_)
    refine lv_i2l hx hb dX11_squares_59 rfl ?_
    refine lv_lload hx hb dX11_squares_60 (lv_at hl 0 rfl) ?_
    refine lv_lmul hx hb dX11_squares_62 ?_
    refine lv_lload hx hb dX11_squares_63 (lv_at hl 0 rfl) ?_
    refine lv_lmul hx hb dX11_squares_65 ?_
    refine lv_ladd hx hb dX11_squares_66 ?_
    refine lv_topl (fun v13 hv13 => ?_)
    have hF := rt_t hv13 hF
    refine lv_lstore_n (lv' := [(3, .long v13), (6, .long c9.toInt64), (0, .ref x0), (1, .int x1), (2, .int x2), (5, .int x5)]) hx hb dX11_squares_67 rfl hl (by decide) (by first | rfl | simp [m_cat, m_ci, m_cl, m_cf, m_cd, m_cr]) (fun ls hl => ?_)
    refine lv_iinc (v := (x5 + (1 : Int32))) (lv' := [(5, .int (x5 + (1 : Int32))), (3, .long v13), (6, .long c9.toInt64), (0, .ref x0), (1, .int x1), (2, .int x2)]) hx hb dX11_squares_68 hl (k := 5) rfl (by first | rfl | (congr 1)) (by decide) (by first | rfl | simp [m_cat, m_ci, m_cl, m_cf, m_cd, m_cr]) (fun ls hl => ?_)
    refine lv_goto (tgt := 24) hx hb dX11_squares_71 (by decide) ?_
    exact hrec _ _ _ _ _ _ _ _ (lv_sub hl [3, 4, 5, 1, 0] rfl) hH hF
theorem w_X11_squares_24 {l : Launch} {D : va_G} {cy : Nat → ClassId} {z : Nat} {p : Program} {e : Env} {R : Room} {s : State} {m : MethodId} {args : Array Value} {below : List Frame} {meth : Method} {c : Code} {ws0 wsf : WS} {rr : Int64} (cx : Cx D cy z RX11 cX11_squares 8 (some .long) 2 63 "squares" p R s m meth c) (hE : AC ws0 wsf R.cells R.slots) (x0 : Nat) (x1 : Int32) (x2 : Int32) (k : Int64 → St (Int64)) (hkk : ∀ (x3 : Int64), At_ l D cy z p e R s m args below meth c ws0 wsf vL rr 8 74 [(3, .long x3)] [] (k x3)) : ∀ (n : Nat) (x3 : Int64) (x5 : Int32), At_ l D cy z p e R s m args below meth c ws0 wsf vL rr 8 24 [(0, .ref x0), (1, .int x1), (2, .int x2), (3, .long x3), (5, .int x5)] [] (l_X11_squares_24 x0 x1 x2 k n x3 x5) := by
  intro n
  induction n with
  | zero =>
    intro x3 x5 ws H locs cells slots ls hl hH hF
    exact fl_t hF
  | succ n ih =>
    intro x3 x5
    exact wb_X11_squares_24 cx hE x0 x1 x2 (l_X11_squares_24 x0 x1 x2 k n) k ih hkk x3 x5
set_option maxHeartbeats 4000000 in
set_option maxRecDepth 100000 in
theorem t_X11_squares (l : Launch) (D : va_G) (cy : Nat → ClassId) (z : Nat) (o : Nat) (x1 : Int32) (x2 : Int32) : MT l D cy z yX11_squares cX11_squares 8 (some .long) 2 63 (F_X11_squares o x1 x2) vL [.ref o, .int x1, .int x2] := by
  refine m_enter [(0, .ref o), (1, .int x1), (2, .int x2)] (by decide) (by first | rfl | simp [lv_args, m_cat, m_ci, m_cl, m_cf, m_cd, m_cr]) (by first | exact Nat.le_of_ble_eq_true rfl | simp [lg_sl, m_cat, m_ci, m_cl, m_cf, m_cd, m_cr]) ?_
  intro p e R s m args below meth c ws0 wsf rr cx hE ws H locs cells slots ls hl hH hF
  obtain ⟨hx, hb, hr, hml, hown, hk, hz, hlocks, hnm, hfr, hlo⟩ := id cx
  unfold F_X11_squares at hF
  refine lv_iload_n hx hb dX11_squares_0 rfl (lv_at hl 1 rfl) ?_
  refine m_cSI hx hb hml hown hk hH hE.le hz (As := [.int x1]) (rest := []) (t_X11_isSensor l D cy z x1) hF wd_843 wd_844 wd_38 wd_845 yn_X11_isSensor ⟨Nat.le_trans (by decide) hfr, Nat.le_trans (by decide) hlo⟩ hl.1 (by first | exact Nat.le_of_ble_eq_true rfl | simp [m_cat, m_ci, m_cl, m_cf, m_cd, m_cr]) rfl dX11_squares_1 (fun c1 ws H locs cells slots hH hF => ?_)
  refine lv_if_eq (tgt := 15) hx hb dX11_squares_4 (by decide) (fun hc1 => ?_) (fun hc1 => ?_)
  · have hF := bq_t hc1 hF
    refine lv_ldc2 hx hb hown (hk.wd wd_983 args) dX11_squares_15 ?_
    exact m_lret hx hb hr hlocks hH hE hF dX11_squares_18
  · have hF := bq_f hc1 hF
    refine lv_aload_n hx hb dX11_squares_7 rfl (lv_at hl 0 rfl) ?_
    refine lv_iload_n hx hb dX11_squares_8 rfl (lv_at hl 2 rfl) ?_
    refine m_cVI hx hb hml hown hk hH hE.le hz (F := fun q4 => F_X11_isCurve q4.1 x2) (C := RX11) (T := TX11) (N := 22) rfl (As := [.int x2]) (rest := []) (fun o => t_X11_isCurve l D cy z o x2) hF wd_903 wd_905 wd_38 wd_906 wd_19 yn_X11_isCurve ⟨Nat.le_trans (by decide) hfr, Nat.le_trans (by decide) hlo⟩ hl.1 (by first | exact Nat.le_of_ble_eq_true rfl | simp [m_cat, m_ci, m_cl, m_cf, m_cd, m_cr]) rfl dX11_squares_9 (fun c3 ws H locs cells slots hH hF => ?_)
    refine lv_if_ne (tgt := 19) hx hb dX11_squares_12 (by decide) (fun hc4 => ?_) (fun hc4 => ?_)
    · have hF := bq_f hc4 hF
      refine lv_lconst (v := (0)) hx hb dX11_squares_19 (by decide) ?_
      refine lv_lstore_n (lv' := [(3, .long (0 : Int64)), (0, .ref o), (1, .int x1), (2, .int x2)]) hx hb dX11_squares_20 rfl hl (by decide) (by first | rfl | simp [m_cat, m_ci, m_cl, m_cf, m_cd, m_cr]) (fun ls hl => ?_)
      refine lv_iconst (v := (0)) hx hb dX11_squares_21 (by decide) ?_
      refine lv_istore (lv' := [(5, .int (0 : Int32)), (3, .long (0 : Int64)), (0, .ref o), (1, .int x1), (2, .int x2)]) hx hb dX11_squares_22 hl (by decide) (by first | rfl | simp [m_cat, m_ci, m_cl, m_cf, m_cd, m_cr]) (fun ls hl => ?_)
      refine w_X11_squares_24 cx hE o x1 x2 _ (fun e14 ws H locs cells slots ls hl hH hF => ?_) _ _ _ _ _ _ _ _ _ (lv_sub hl [2, 3, 4, 1, 0] rfl) hH hF
      refine lv_lload_n hx hb dX11_squares_74 rfl (lv_at hl 0 rfl) ?_
      exact m_lret hx hb hr hlocks hH hE hF dX11_squares_75
    · have hF := bq_t hc4 hF
      refine lv_ldc2 hx hb hown (hk.wd wd_983 args) dX11_squares_15 ?_
      exact m_lret hx hb hr hlocks hH hE hF dX11_squares_18

def b_X11_drift_35 (x0 : Nat) (x1 : Int32) (x2 : Int32) (rec : Int64 → Int64 → Int32 → St (Int32)) (k : Int64 → Int64 → St (Int32)) (x3 : Int64) (x5 : Int64) (x7 : Int32) : St (Int32) :=
  bd (gR [10] 0 (some x0)) fun v9 => bd (aI 0 v9 x1) fun v10 => br (v10 ≤ x7) (k x3 x5) (bd (gR [10] 3 (some x0)) fun v12 => bd (aI 0 v12 (((24 : Int32) * x1) + x7)) fun v13 => bd (dr [10] (some x0)) fun q15 => bd (F_X11_rest q15.1 x1 x7 x2) fun c14 => bd (rt (x3 + (v13.toInt64 * c14.toInt64))) fun v16 => bd (gR [10] 3 (some x0)) fun v17 => bd (aI 0 v17 (((24 : Int32) * x1) + x7)) fun v18 => bd (rt (x5 + v18.toInt64)) fun v19 => rec v16 v19 (x7 + (1 : Int32)))
def l_X11_drift_35 (x0 : Nat) (x1 : Int32) (x2 : Int32) (k : Int64 → Int64 → St (Int32)) : Nat → Int64 → Int64 → Int32 → St (Int32)
  | 0 => fun _ _ _ => fl
  | n + 1 => fun x3 x5 x7 => b_X11_drift_35 x0 x1 x2 (l_X11_drift_35 x0 x1 x2 k n) k x3 x5 x7
def F_X11_drift (o : Nat) (x1 : Int32) (x2 : Int32) : St (Int32) :=
  bd (F_X11_isSensor x1) fun c1 => br (c1 = 0) (rt (-2000000 : Int32)) (bd (dr [10] (some o)) fun q4 => bd (F_X11_isCurve q4.1 x2) fun c3 => br (c3 = 0) (rt (-2000000 : Int32)) (bd (gR [10] 0 (some o)) fun v6 => bd (aI 0 v6 x1) fun v7 => br (v7 = 0) (rt (-2000000 : Int32)) (l_X11_drift_35 o x1 x2 (fun (e20 : Int64) (e21 : Int64) => bd (F_X11_rounded e20 e21) fun c22 => rt c22.toInt32) FU (0 : Int64) (0 : Int64) (0 : Int32))))
set_option maxHeartbeats 4000000 in
set_option maxRecDepth 100000 in
theorem wb_X11_drift_35 {l : Launch} {D : va_G} {cy : Nat → ClassId} {z : Nat} {p : Program} {e : Env} {R : Room} {s : State} {m : MethodId} {args : Array Value} {below : List Frame} {meth : Method} {c : Code} {ws0 wsf : WS} {rr : Int32} (cx : Cx D cy z RX11 cX11_drift 8 (some .int) 2 67 "drift" p R s m meth c) (hE : AC ws0 wsf R.cells R.slots) (x0 : Nat) (x1 : Int32) (x2 : Int32) (rec : Int64 → Int64 → Int32 → St (Int32)) (k : Int64 → Int64 → St (Int32)) (hrec : ∀ (x3 : Int64) (x5 : Int64) (x7 : Int32), At_ l D cy z p e R s m args below meth c ws0 wsf vI rr 8 35 [(0, .ref x0), (1, .int x1), (2, .int x2), (3, .long x3), (5, .long x5), (7, .int x7)] [] (rec x3 x5 x7)) (hkk : ∀ (x3 : Int64) (x5 : Int64), At_ l D cy z p e R s m args below meth c ws0 wsf vI rr 8 96 [(3, .long x3), (5, .long x5)] [] (k x3 x5)) (x3 : Int64) (x5 : Int64) (x7 : Int32) : At_ l D cy z p e R s m args below meth c ws0 wsf vI rr 8 35 [(0, .ref x0), (1, .int x1), (2, .int x2), (3, .long x3), (5, .long x5), (7, .int x7)] [] (b_X11_drift_35 x0 x1 x2 rec k x3 x5 x7) := by
  intro ws H locs cells slots ls hl hH hF
  obtain ⟨hx, hb, hr, hml, hown, hk, hz, hlocks, hnm, hfr, hlo⟩ := id cx
  unfold b_X11_drift_35 at hF
  refine lv_iload hx hb dX11_drift_35 (lv_at hl 5 rfl) ?_
  refine lv_aload_n hx hb dX11_drift_37 rfl (lv_at hl 0 rfl) ?_
  refine m_gR hx hb hown hk hH hF fk_RX11_readings lk_RX11_9 dX11_drift_38 (fun v9 hF => ?_)
  refine lv_iload_n hx hb dX11_drift_41 rfl (lv_at hl 1 rfl) ?_
  refine m_aI0 hx hb hk hH hF dX11_drift_42 (fun v10 hF => ?_)
  refine lv_icmp_ge (tgt := 96) hx hb dX11_drift_43 (by decide) (fun hc10 => ?_) (fun hc10 => ?_)
  · have hF := bq_t hc10 hF
    exact hkk _ _ _ _ _ _ _ _ (lv_sub hl [3, 4] rfl) hH hF
  · have hF := bq_f hc10 hF
    refine lv_lload_n hx hb dX11_drift_46 rfl (lv_at hl 3 rfl) ?_
    refine lv_aload_n hx hb dX11_drift_47 rfl (lv_at hl 0 rfl) ?_
    refine m_gR hx hb hown hk hH hF fk_RX11_weight lk_RX11_19 dX11_drift_48 (fun v12 hF => ?_)
    refine lv_bipush (v := (24)) hx hb dX11_drift_51 (by decide) ?_
    refine lv_iload_n hx hb dX11_drift_53 rfl (lv_at hl 1 rfl) ?_
    refine lv_imul hx hb dX11_drift_54 ?_
    refine lv_iload hx hb dX11_drift_55 (lv_at hl 5 rfl) ?_
    refine lv_iadd hx hb dX11_drift_57 ?_
    refine m_aI0 hx hb hk hH hF dX11_drift_58 (fun v13 hF => ?_)
    refine lv_i2l hx hb dX11_drift_59 rfl ?_
    refine lv_aload_n hx hb dX11_drift_60 rfl (lv_at hl 0 rfl) ?_
    refine lv_iload_n hx hb dX11_drift_61 rfl (lv_at hl 1 rfl) ?_
    refine lv_iload hx hb dX11_drift_62 (lv_at hl 5 rfl) ?_
    refine lv_iload_n hx hb dX11_drift_64 rfl (lv_at hl 2 rfl) ?_
    refine m_cVI hx hb hml hown hk hH hE.le hz (F := fun q15 => F_X11_rest q15.1 x1 x7 x2) (C := RX11) (T := TX11) (N := 22) rfl (As := [.int x1, .int x7, .int x2]) (rest := [.long v13.toInt64, .long x3]) (fun o => t_X11_rest l D cy z o x1 x7 x2) hF wd_971 wd_973 wd_38 wd_974 wd_26 yn_X11_rest ⟨Nat.le_trans (by decide) hfr, Nat.le_trans (by decide) hlo⟩ hl.1 (by first | exact Nat.le_of_ble_eq_true rfl | simp [m_cat, m_ci, m_cl, m_cf, m_cd, m_cr]) rfl dX11_drift_65 (fun c14 ws H locs cells slots hH hF => ?_)
    refine lv_i2l hx hb dX11_drift_68 rfl ?_
    refine lv_lmul hx hb dX11_drift_69 ?_
    refine lv_ladd hx hb dX11_drift_70 ?_
    refine lv_topl (fun v16 hv16 => ?_)
    have hF := rt_t hv16 hF
    refine lv_lstore_n (lv' := [(3, .long v16), (0, .ref x0), (1, .int x1), (2, .int x2), (5, .long x5), (7, .int x7)]) hx hb dX11_drift_71 rfl hl (by decide) (by first | rfl | simp [m_cat, m_ci, m_cl, m_cf, m_cd, m_cr]) (fun ls hl => ?_)
    refine lv_lload hx hb dX11_drift_72 (lv_at hl 4 rfl) ?_
    refine lv_aload_n hx hb dX11_drift_74 rfl (lv_at hl 1 rfl) ?_
    refine m_gR hx hb hown hk hH hF fk_RX11_weight lk_RX11_19 dX11_drift_75 (fun v17 hF => ?_)
    refine lv_bipush (v := (24)) hx hb dX11_drift_78 (by decide) ?_
    refine lv_iload_n hx hb dX11_drift_80 rfl (lv_at hl 2 rfl) ?_
    refine lv_imul hx hb dX11_drift_81 ?_
    refine lv_iload hx hb dX11_drift_82 (lv_at hl 5 rfl) ?_
    refine lv_iadd hx hb dX11_drift_84 ?_
    refine m_aI0 hx hb hk hH hF dX11_drift_85 (fun v18 hF => ?_)
    refine lv_i2l hx hb dX11_drift_86 rfl ?_
    refine lv_ladd hx hb dX11_drift_87 ?_
    refine lv_topl (fun v19 hv19 => ?_)
    have hF := rt_t hv19 hF
    refine lv_lstore (lv' := [(5, .long v19), (3, .long v16), (0, .ref x0), (1, .int x1), (2, .int x2), (7, .int x7)]) hx hb dX11_drift_88 hl (by decide) (by first | rfl | simp [m_cat, m_ci, m_cl, m_cf, m_cd, m_cr]) (fun ls hl => ?_)
    refine lv_iinc (v := (x7 + (1 : Int32))) (lv' := [(7, .int (x7 + (1 : Int32))), (5, .long v19), (3, .long v16), (0, .ref x0), (1, .int x1), (2, .int x2)]) hx hb dX11_drift_90 hl (k := 5) rfl (by first | rfl | (congr 1)) (by decide) (by first | rfl | simp [m_cat, m_ci, m_cl, m_cf, m_cd, m_cr]) (fun ls hl => ?_)
    refine lv_goto (tgt := 35) hx hb dX11_drift_93 (by decide) ?_
    exact hrec _ _ _ _ _ _ _ _ _ (lv_sub hl [3, 4, 5, 2, 1, 0] rfl) hH hF
theorem w_X11_drift_35 {l : Launch} {D : va_G} {cy : Nat → ClassId} {z : Nat} {p : Program} {e : Env} {R : Room} {s : State} {m : MethodId} {args : Array Value} {below : List Frame} {meth : Method} {c : Code} {ws0 wsf : WS} {rr : Int32} (cx : Cx D cy z RX11 cX11_drift 8 (some .int) 2 67 "drift" p R s m meth c) (hE : AC ws0 wsf R.cells R.slots) (x0 : Nat) (x1 : Int32) (x2 : Int32) (k : Int64 → Int64 → St (Int32)) (hkk : ∀ (x3 : Int64) (x5 : Int64), At_ l D cy z p e R s m args below meth c ws0 wsf vI rr 8 96 [(3, .long x3), (5, .long x5)] [] (k x3 x5)) : ∀ (n : Nat) (x3 : Int64) (x5 : Int64) (x7 : Int32), At_ l D cy z p e R s m args below meth c ws0 wsf vI rr 8 35 [(0, .ref x0), (1, .int x1), (2, .int x2), (3, .long x3), (5, .long x5), (7, .int x7)] [] (l_X11_drift_35 x0 x1 x2 k n x3 x5 x7) := by
  intro n
  induction n with
  | zero =>
    intro x3 x5 x7 ws H locs cells slots ls hl hH hF
    exact fl_t hF
  | succ n ih =>
    intro x3 x5 x7
    exact wb_X11_drift_35 cx hE x0 x1 x2 (l_X11_drift_35 x0 x1 x2 k n) k ih hkk x3 x5 x7
set_option maxHeartbeats 4000000 in
set_option maxRecDepth 100000 in
theorem t_X11_drift (l : Launch) (D : va_G) (cy : Nat → ClassId) (z : Nat) (o : Nat) (x1 : Int32) (x2 : Int32) : MT l D cy z yX11_drift cX11_drift 8 (some .int) 2 67 (F_X11_drift o x1 x2) vI [.ref o, .int x1, .int x2] := by
  refine m_enter [(0, .ref o), (1, .int x1), (2, .int x2)] (by decide) (by first | rfl | simp [lv_args, m_cat, m_ci, m_cl, m_cf, m_cd, m_cr]) (by first | exact Nat.le_of_ble_eq_true rfl | simp [lg_sl, m_cat, m_ci, m_cl, m_cf, m_cd, m_cr]) ?_
  intro p e R s m args below meth c ws0 wsf rr cx hE ws H locs cells slots ls hl hH hF
  obtain ⟨hx, hb, hr, hml, hown, hk, hz, hlocks, hnm, hfr, hlo⟩ := id cx
  unfold F_X11_drift at hF
  refine lv_iload_n hx hb dX11_drift_0 rfl (lv_at hl 1 rfl) ?_
  refine m_cSI hx hb hml hown hk hH hE.le hz (As := [.int x1]) (rest := []) (t_X11_isSensor l D cy z x1) hF wd_843 wd_844 wd_38 wd_845 yn_X11_isSensor ⟨Nat.le_trans (by decide) hfr, Nat.le_trans (by decide) hlo⟩ hl.1 (by first | exact Nat.le_of_ble_eq_true rfl | simp [m_cat, m_ci, m_cl, m_cf, m_cd, m_cr]) rfl dX11_drift_1 (fun c1 ws H locs cells slots hH hF => ?_)
  refine lv_if_eq (tgt := 24) hx hb dX11_drift_4 (by decide) (fun hc1 => ?_) (fun hc1 => ?_)
  · have hF := bq_t hc1 hF
    refine lv_ldc hx hb hown (hk.wd wd_938 args) dX11_drift_24 ?_
    exact m_iret hx hb hr hlocks hH hE hF rfl dX11_drift_26
  · have hF := bq_f hc1 hF
    refine lv_aload_n hx hb dX11_drift_7 rfl (lv_at hl 0 rfl) ?_
    refine lv_iload_n hx hb dX11_drift_8 rfl (lv_at hl 2 rfl) ?_
    refine m_cVI hx hb hml hown hk hH hE.le hz (F := fun q4 => F_X11_isCurve q4.1 x2) (C := RX11) (T := TX11) (N := 22) rfl (As := [.int x2]) (rest := []) (fun o => t_X11_isCurve l D cy z o x2) hF wd_903 wd_905 wd_38 wd_906 wd_19 yn_X11_isCurve ⟨Nat.le_trans (by decide) hfr, Nat.le_trans (by decide) hlo⟩ hl.1 (by first | exact Nat.le_of_ble_eq_true rfl | simp [m_cat, m_ci, m_cl, m_cf, m_cd, m_cr]) rfl dX11_drift_9 (fun c3 ws H locs cells slots hH hF => ?_)
    refine lv_if_eq (tgt := 24) hx hb dX11_drift_12 (by decide) (fun hc4 => ?_) (fun hc4 => ?_)
    · have hF := bq_t hc4 hF
      refine lv_ldc hx hb hown (hk.wd wd_938 args) dX11_drift_24 ?_
      exact m_iret hx hb hr hlocks hH hE hF rfl dX11_drift_26
    · have hF := bq_f hc4 hF
      refine lv_aload_n hx hb dX11_drift_15 rfl (lv_at hl 0 rfl) ?_
      refine m_gR hx hb hown hk hH hF fk_RX11_readings lk_RX11_9 dX11_drift_16 (fun v6 hF => ?_)
      refine lv_iload_n hx hb dX11_drift_19 rfl (lv_at hl 1 rfl) ?_
      refine m_aI0 hx hb hk hH hF dX11_drift_20 (fun v7 hF => ?_)
      refine lv_if_ne (tgt := 27) hx hb dX11_drift_21 (by decide) (fun hc7 => ?_) (fun hc7 => ?_)
      · have hF := bq_f hc7 hF
        refine lv_lconst (v := (0)) hx hb dX11_drift_27 (by decide) ?_
        refine lv_lstore_n (lv' := [(3, .long (0 : Int64)), (0, .ref o), (1, .int x1), (2, .int x2)]) hx hb dX11_drift_28 rfl hl (by decide) (by first | rfl | simp [m_cat, m_ci, m_cl, m_cf, m_cd, m_cr]) (fun ls hl => ?_)
        refine lv_lconst (v := (0)) hx hb dX11_drift_29 (by decide) ?_
        refine lv_lstore (lv' := [(5, .long (0 : Int64)), (3, .long (0 : Int64)), (0, .ref o), (1, .int x1), (2, .int x2)]) hx hb dX11_drift_30 hl (by decide) (by first | rfl | simp [m_cat, m_ci, m_cl, m_cf, m_cd, m_cr]) (fun ls hl => ?_)
        refine lv_iconst (v := (0)) hx hb dX11_drift_32 (by decide) ?_
        refine lv_istore (lv' := [(7, .int (0 : Int32)), (5, .long (0 : Int64)), (3, .long (0 : Int64)), (0, .ref o), (1, .int x1), (2, .int x2)]) hx hb dX11_drift_33 hl (by decide) (by first | rfl | simp [m_cat, m_ci, m_cl, m_cf, m_cd, m_cr]) (fun ls hl => ?_)
        refine w_X11_drift_35 cx hE o x1 x2 _ (fun e20 e21 ws H locs cells slots ls hl hH hF => ?_) _ _ _ _ _ _ _ _ _ _ (lv_sub hl [3, 4, 5, 2, 1, 0] rfl) hH hF
        refine lv_lload_n hx hb dX11_drift_96 rfl (lv_at hl 0 rfl) ?_
        refine lv_lload hx hb dX11_drift_97 (lv_at hl 1 rfl) ?_
        refine m_cSL hx hb hml hown hk hH hE.le hz (As := [.long e20, .long e21]) (rest := []) (t_X11_rounded l D cy z e20 e21) hF wd_865 wd_866 wd_38 wd_867 yn_X11_rounded ⟨Nat.le_trans (by decide) hfr, Nat.le_trans (by decide) hlo⟩ hl.1 (by first | exact Nat.le_of_ble_eq_true rfl | simp [m_cat, m_ci, m_cl, m_cf, m_cd, m_cr]) rfl dX11_drift_99 (fun c22 ws H locs cells slots hH hF => ?_)
        refine lv_l2i hx hb dX11_drift_102 rfl ?_
        exact m_iret hx hb hr hlocks hH hE hF rfl dX11_drift_103
      · have hF := bq_t hc7 hF
        refine lv_ldc hx hb hown (hk.wd wd_938 args) dX11_drift_24 ?_
        exact m_iret hx hb hr hlocks hH hE hF rfl dX11_drift_26

def F_X11_isFour (x0 : Int32) : St (Int32) :=
  br (x0 < 0) (rt (0 : Int32)) (br ((4 : Int32) ≤ x0) (rt (0 : Int32)) (rt (1 : Int32)))
set_option maxHeartbeats 4000000 in
set_option maxRecDepth 100000 in
theorem t_X11_isFour (l : Launch) (D : va_G) (cy : Nat → ClassId) (z : Nat) (x0 : Int32) : MT l D cy z yX11_isFour cX11_isFour 1 (some .boolean) 0 0 (F_X11_isFour x0) vI [.int x0] := by
  refine m_enter [(0, .int x0)] (by decide) (by first | rfl | simp [lv_args, m_cat, m_ci, m_cl, m_cf, m_cd, m_cr]) (by first | exact Nat.le_of_ble_eq_true rfl | simp [lg_sl, m_cat, m_ci, m_cl, m_cf, m_cd, m_cr]) ?_
  intro p e R s m args below meth c ws0 wsf rr cx hE ws H locs cells slots ls hl hH hF
  obtain ⟨hx, hb, hr, hml, hown, hk, hz, hlocks, hnm, hfr, hlo⟩ := id cx
  unfold F_X11_isFour at hF
  refine lv_iload_n hx hb dX11_isFour_0 rfl (lv_at hl 0 rfl) ?_
  refine lv_if_lt (tgt := 13) hx hb dX11_isFour_1 (by decide) (fun hc0 => ?_) (fun hc0 => ?_)
  · have hF := bq_t hc0 hF
    refine lv_iconst (v := (0)) hx hb dX11_isFour_13 (by decide) ?_
    exact m_iret hx hb hr hlocks hH hE hF rfl dX11_isFour_14
  · have hF := bq_f hc0 hF
    refine lv_iload_n hx hb dX11_isFour_4 rfl (lv_at hl 0 rfl) ?_
    refine lv_iconst (v := (4)) hx hb dX11_isFour_5 (by decide) ?_
    refine lv_icmp_ge (tgt := 13) hx hb dX11_isFour_6 (by decide) (fun hc1 => ?_) (fun hc1 => ?_)
    · have hF := bq_t hc1 hF
      refine lv_iconst (v := (0)) hx hb dX11_isFour_13 (by decide) ?_
      exact m_iret hx hb hr hlocks hH hE hF rfl dX11_isFour_14
    · have hF := bq_f hc1 hF
      refine lv_iconst (v := (1)) hx hb dX11_isFour_9 (by decide) ?_
      refine lv_goto (tgt := 14) hx hb dX11_isFour_10 (by decide) ?_
      exact m_iret hx hb hr hlocks hH hE hF rfl dX11_isFour_14

def F_X11_probe (o : Nat) (x1 : Int32) (x2 : Int32) (x3 : Int32) (x4 : Int32) : St (Int32) :=
  bd (F_X11_isFour x1) fun c1 => br (c1 = 0) (rt (-2 : Int32)) (bd (dr [10] (some o)) fun q4 => bd (F_X11_isCurve q4.1 x2) fun c3 => br (c3 = 0) (rt (-2 : Int32)) (br (x3 < 0) (rt (-2 : Int32)) (br ((2 : Int32) < x3) (rt (-2 : Int32)) (br (x4 < (1 : Int32)) (rt (-2 : Int32)) (br (x4 ≤ (9 : Int32)) (bd (gR [10] 11 (some o)) fun v10 => bd (sI 0 v10 x1 x2) fun _ => bd (gR [10] 12 (some o)) fun v11 => bd (sI 0 v11 x1 x3) fun _ => bd (gR [10] 13 (some o)) fun v12 => bd (sI 0 v12 x1 x4) fun _ => bd (gR [10] 14 (some o)) fun v13 => bd (sI 0 v13 x1 (0 : Int32)) fun _ => rt (1 : Int32)) (rt (-2 : Int32)))))))
set_option maxHeartbeats 4000000 in
set_option maxRecDepth 100000 in
theorem t_X11_probe (l : Launch) (D : va_G) (cy : Nat → ClassId) (z : Nat) (o : Nat) (x1 : Int32) (x2 : Int32) (x3 : Int32) (x4 : Int32) : MT l D cy z yX11_probe cX11_probe 5 (some .int) 1 40 (F_X11_probe o x1 x2 x3 x4) vI [.ref o, .int x1, .int x2, .int x3, .int x4] := by
  refine m_enter [(0, .ref o), (1, .int x1), (2, .int x2), (3, .int x3), (4, .int x4)] (by decide) (by first | rfl | simp [lv_args, m_cat, m_ci, m_cl, m_cf, m_cd, m_cr]) (by first | exact Nat.le_of_ble_eq_true rfl | simp [lg_sl, m_cat, m_ci, m_cl, m_cf, m_cd, m_cr]) ?_
  intro p e R s m args below meth c ws0 wsf rr cx hE ws H locs cells slots ls hl hH hF
  obtain ⟨hx, hb, hr, hml, hown, hk, hz, hlocks, hnm, hfr, hlo⟩ := id cx
  unfold F_X11_probe at hF
  refine lv_iload_n hx hb dX11_probe_0 rfl (lv_at hl 1 rfl) ?_
  refine m_cSI hx hb hml hown hk hH hE.le hz (As := [.int x1]) (rest := []) (t_X11_isFour l D cy z x1) hF wd_992 wd_993 wd_38 wd_994 yn_X11_isFour ⟨Nat.le_trans (by decide) hfr, Nat.le_trans (by decide) hlo⟩ hl.1 (by first | exact Nat.le_of_ble_eq_true rfl | simp [m_cat, m_ci, m_cl, m_cf, m_cd, m_cr]) rfl dX11_probe_1 (fun c1 ws H locs cells slots hH hF => ?_)
  refine lv_if_eq (tgt := 37) hx hb dX11_probe_4 (by decide) (fun hc1 => ?_) (fun hc1 => ?_)
  · have hF := bq_t hc1 hF
    refine lv_bipush (v := (-2)) hx hb dX11_probe_37 (by decide) ?_
    exact m_iret hx hb hr hlocks hH hE hF rfl dX11_probe_39
  · have hF := bq_f hc1 hF
    refine lv_aload_n hx hb dX11_probe_7 rfl (lv_at hl 0 rfl) ?_
    refine lv_iload_n hx hb dX11_probe_8 rfl (lv_at hl 2 rfl) ?_
    refine m_cVI hx hb hml hown hk hH hE.le hz (F := fun q4 => F_X11_isCurve q4.1 x2) (C := RX11) (T := TX11) (N := 22) rfl (As := [.int x2]) (rest := []) (fun o => t_X11_isCurve l D cy z o x2) hF wd_903 wd_905 wd_38 wd_906 wd_19 yn_X11_isCurve ⟨Nat.le_trans (by decide) hfr, Nat.le_trans (by decide) hlo⟩ hl.1 (by first | exact Nat.le_of_ble_eq_true rfl | simp [m_cat, m_ci, m_cl, m_cf, m_cd, m_cr]) rfl dX11_probe_9 (fun c3 ws H locs cells slots hH hF => ?_)
    refine lv_if_eq (tgt := 37) hx hb dX11_probe_12 (by decide) (fun hc4 => ?_) (fun hc4 => ?_)
    · have hF := bq_t hc4 hF
      refine lv_bipush (v := (-2)) hx hb dX11_probe_37 (by decide) ?_
      exact m_iret hx hb hr hlocks hH hE hF rfl dX11_probe_39
    · have hF := bq_f hc4 hF
      refine lv_iload_n hx hb dX11_probe_15 rfl (lv_at hl 3 rfl) ?_
      refine lv_if_lt (tgt := 37) hx hb dX11_probe_16 (by decide) (fun hc5 => ?_) (fun hc5 => ?_)
      · have hF := bq_t hc5 hF
        refine lv_bipush (v := (-2)) hx hb dX11_probe_37 (by decide) ?_
        exact m_iret hx hb hr hlocks hH hE hF rfl dX11_probe_39
      · have hF := bq_f hc5 hF
        refine lv_iload_n hx hb dX11_probe_19 rfl (lv_at hl 3 rfl) ?_
        refine lv_iconst (v := (2)) hx hb dX11_probe_20 (by decide) ?_
        refine lv_icmp_gt (tgt := 37) hx hb dX11_probe_21 (by decide) (fun hc6 => ?_) (fun hc6 => ?_)
        · have hF := bq_t hc6 hF
          refine lv_bipush (v := (-2)) hx hb dX11_probe_37 (by decide) ?_
          exact m_iret hx hb hr hlocks hH hE hF rfl dX11_probe_39
        · have hF := bq_f hc6 hF
          refine lv_iload hx hb dX11_probe_24 (lv_at hl 4 rfl) ?_
          refine lv_iconst (v := (1)) hx hb dX11_probe_26 (by decide) ?_
          refine lv_icmp_lt (tgt := 37) hx hb dX11_probe_27 (by decide) (fun hc7 => ?_) (fun hc7 => ?_)
          · have hF := bq_t hc7 hF
            refine lv_bipush (v := (-2)) hx hb dX11_probe_37 (by decide) ?_
            exact m_iret hx hb hr hlocks hH hE hF rfl dX11_probe_39
          · have hF := bq_f hc7 hF
            refine lv_iload hx hb dX11_probe_30 (lv_at hl 4 rfl) ?_
            refine lv_bipush (v := (9)) hx hb dX11_probe_32 (by decide) ?_
            refine lv_icmp_le (tgt := 40) hx hb dX11_probe_34 (by decide) (fun hc8 => ?_) (fun hc8 => ?_)
            · have hF := bq_t hc8 hF
              refine lv_aload_n hx hb dX11_probe_40 rfl (lv_at hl 0 rfl) ?_
              refine m_gR hx hb hown hk hH hF fk_RX11_probeCurve lk_RX11_38 dX11_probe_41 (fun v10 hF => ?_)
              refine lv_iload_n hx hb dX11_probe_44 rfl (lv_at hl 1 rfl) ?_
              refine lv_iload_n hx hb dX11_probe_45 rfl (lv_at hl 2 rfl) ?_
              refine m_sI0 hx hb hk hH hF dX11_probe_46 (fun ws H locs hH hF => ?_)
              refine lv_aload_n hx hb dX11_probe_47 rfl (lv_at hl 0 rfl) ?_
              refine m_gR hx hb hown hk hH hF fk_RX11_probeFilter lk_RX11_41 dX11_probe_48 (fun v11 hF => ?_)
              refine lv_iload_n hx hb dX11_probe_51 rfl (lv_at hl 1 rfl) ?_
              refine lv_iload_n hx hb dX11_probe_52 rfl (lv_at hl 3 rfl) ?_
              refine m_sI0 hx hb hk hH hF dX11_probe_53 (fun ws H locs hH hF => ?_)
              refine lv_aload_n hx hb dX11_probe_54 rfl (lv_at hl 0 rfl) ?_
              refine m_gR hx hb hown hk hH hF fk_RX11_probeMany lk_RX11_44 dX11_probe_55 (fun v12 hF => ?_)
              refine lv_iload_n hx hb dX11_probe_58 rfl (lv_at hl 1 rfl) ?_
              refine lv_iload hx hb dX11_probe_59 (lv_at hl 4 rfl) ?_
              refine m_sI0 hx hb hk hH hF dX11_probe_61 (fun ws H locs hH hF => ?_)
              refine lv_aload_n hx hb dX11_probe_62 rfl (lv_at hl 0 rfl) ?_
              refine m_gR hx hb hown hk hH hF fk_RX11_fed lk_RX11_47 dX11_probe_63 (fun v13 hF => ?_)
              refine lv_iload_n hx hb dX11_probe_66 rfl (lv_at hl 1 rfl) ?_
              refine lv_iconst (v := (0)) hx hb dX11_probe_67 (by decide) ?_
              refine m_sI0 hx hb hk hH hF dX11_probe_68 (fun ws H locs hH hF => ?_)
              refine lv_iconst (v := (1)) hx hb dX11_probe_69 (by decide) ?_
              exact m_iret hx hb hr hlocks hH hE hF rfl dX11_probe_70
            · have hF := bq_f hc8 hF
              refine lv_bipush (v := (-2)) hx hb dX11_probe_37 (by decide) ?_
              exact m_iret hx hb hr hlocks hH hE hF rfl dX11_probe_39

def b_X11_filtered_55 (x0 : Nat) (x1 : Int32) (x2 : Int32) (rec : Int64 → Int32 → St (Int32)) (k : Int64 → St (Int32)) (x3 : Int64) (x5 : Int32) : St (Int32) :=
  br (x2 ≤ x5) (k x3) (bd (gR [10] 15 (some x0)) fun v12 => bd (aI 0 v12 (((9 : Int32) * x1) + x5)) fun v13 => bd (rt (x3 + v13.toInt64)) fun v14 => rec v14 (x5 + (1 : Int32)))
def l_X11_filtered_55 (x0 : Nat) (x1 : Int32) (x2 : Int32) (k : Int64 → St (Int32)) : Nat → Int64 → Int32 → St (Int32)
  | 0 => fun _ _ => fl
  | n + 1 => fun x3 x5 => b_X11_filtered_55 x0 x1 x2 (l_X11_filtered_55 x0 x1 x2 k n) k x3 x5
def j_X11_filtered_196 (rec : Int32 → Int32 → Int32 → St (Int32)) (k : Int32 → Int32 → St (Int32)) (x0 : Nat) (x1 : Int32) (x2 : Int32) (x5 : Int32) (x6 : Int32) (x8 : Int32) (s0 : Int32) (s1 : Int32) : St (Int32) :=
  bd (rt (s0 + s1)) fun v32 => rec x6 v32 (x8 + (1 : Int32))
def j_X11_filtered_159 (rec : Int32 → Int32 → Int32 → St (Int32)) (k : Int32 → Int32 → St (Int32)) (x0 : Nat) (x1 : Int32) (x2 : Int32) (x5 : Int32) (x7 : Int32) (x8 : Int32) (s0 : Int32) (s1 : Int32) : St (Int32) :=
  bd (rt (s0 + s1)) fun v26 => bd (gR [10] 15 (some x0)) fun v27 => bd (aI 0 v27 (((9 : Int32) * x1) + x8)) fun v28 => bd (gR [10] 15 (some x0)) fun v29 => bd (aI 0 v29 (((9 : Int32) * x1) + x5)) fun v30 => br (v28 = v30) (j_X11_filtered_196 rec k x0 x1 x2 x5 v26 x8 x7 (1 : Int32)) (j_X11_filtered_196 rec k x0 x1 x2 x5 v26 x8 x7 (0 : Int32))
def b_X11_filtered_119 (x0 : Nat) (x1 : Int32) (x2 : Int32) (x5 : Int32) (rec : Int32 → Int32 → Int32 → St (Int32)) (k : Int32 → Int32 → St (Int32)) (x6 : Int32) (x7 : Int32) (x8 : Int32) : St (Int32) :=
  br (x2 ≤ x8) (k x6 x7) (bd (gR [10] 15 (some x0)) fun v21 => bd (aI 0 v21 (((9 : Int32) * x1) + x8)) fun v22 => bd (gR [10] 15 (some x0)) fun v23 => bd (aI 0 v23 (((9 : Int32) * x1) + x5)) fun v24 => br (v24 ≤ v22) (j_X11_filtered_159 rec k x0 x1 x2 x5 x7 x8 x6 (0 : Int32)) (j_X11_filtered_159 rec k x0 x1 x2 x5 x7 x8 x6 (1 : Int32)))
def l_X11_filtered_119 (x0 : Nat) (x1 : Int32) (x2 : Int32) (x5 : Int32) (k : Int32 → Int32 → St (Int32)) : Nat → Int32 → Int32 → Int32 → St (Int32)
  | 0 => fun _ _ _ => fl
  | n + 1 => fun x6 x7 x8 => b_X11_filtered_119 x0 x1 x2 x5 (l_X11_filtered_119 x0 x1 x2 x5 k n) k x6 x7 x8
def j_X11_filtered_241 (rec : Int32 → St (Int32)) (k : St (Int32)) (x0 : Nat) (x1 : Int32) (x2 : Int32) (x5 : Int32) : St (Int32) :=
  rec (x5 + (1 : Int32))
def b_X11_filtered_104 (x0 : Nat) (x1 : Int32) (x2 : Int32) (rec : Int32 → St (Int32)) (k : St (Int32)) (x5 : Int32) : St (Int32) :=
  br (x2 ≤ x5) (k) (l_X11_filtered_119 x0 x1 x2 x5 (fun (e33 : Int32) (e34 : Int32) => br (((x2 - (1 : Int32)) / (2 : Int32)) < e33) (j_X11_filtered_241 rec k x0 x1 x2 x5) (br ((e33 + e34) ≤ ((x2 - (1 : Int32)) / (2 : Int32))) (j_X11_filtered_241 rec k x0 x1 x2 x5) (bd (gR [10] 15 (some x0)) fun v37 => bd (aI 0 v37 (((9 : Int32) * x1) + x5)) fun v38 => rt v38))) FU (0 : Int32) (0 : Int32) (0 : Int32))
def l_X11_filtered_104 (x0 : Nat) (x1 : Int32) (x2 : Int32) (k : St (Int32)) : Nat → Int32 → St (Int32)
  | 0 => fun _ => fl
  | n + 1 => fun x5 => b_X11_filtered_104 x0 x1 x2 (l_X11_filtered_104 x0 x1 x2 k n) k x5
def j_X11_filtered_30 (x0 : Nat) (x1 : Int32) (s0 : Int32) : St (Int32) :=
  bd (gR [10] 12 (some x0)) fun v8 => bd (aI 0 v8 x1) fun v9 => br (v9 = 0) (bd (gR [10] 15 (some x0)) fun v40 => bd (aI 0 v40 ((9 : Int32) * x1)) fun v41 => rt v41) (l_X11_filtered_55 x0 x1 s0 (fun (e15 : Int64) => bd (gR [10] 12 (some x0)) fun v16 => bd (aI 0 v16 x1) fun v17 => br (v17 = (2 : Int32)) (bd (F_X11_rounded e15 s0.toInt64) fun c39 => rt c39.toInt32) (l_X11_filtered_104 x0 x1 s0 (rt (0 : Int32)) FU (0 : Int32))) FU (0 : Int64) (0 : Int32))
def F_X11_filtered (o : Nat) (x1 : Int32) : St (Int32) :=
  bd (gR [10] 14 (some o)) fun v1 => bd (aI 0 v1 x1) fun v2 => bd (gR [10] 13 (some o)) fun v3 => bd (aI 0 v3 x1) fun v4 => br (v4 ≤ v2) (bd (gR [10] 13 (some o)) fun v6 => bd (aI 0 v6 x1) fun v7 => j_X11_filtered_30 o x1 v7) (bd (gR [10] 14 (some o)) fun v42 => bd (aI 0 v42 x1) fun v43 => j_X11_filtered_30 o x1 v43)
set_option maxHeartbeats 4000000 in
set_option maxRecDepth 100000 in
theorem wb_X11_filtered_55 {l : Launch} {D : va_G} {cy : Nat → ClassId} {z : Nat} {p : Program} {e : Env} {R : Room} {s : State} {m : MethodId} {args : Array Value} {below : List Frame} {meth : Method} {c : Code} {ws0 wsf : WS} {rr : Int32} (cx : Cx D cy z RX11 cX11_filtered 9 (some .int) 2 67 "filtered" p R s m meth c) (hE : AC ws0 wsf R.cells R.slots) (x0 : Nat) (x1 : Int32) (x2 : Int32) (rec : Int64 → Int32 → St (Int32)) (k : Int64 → St (Int32)) (hrec : ∀ (x3 : Int64) (x5 : Int32), At_ l D cy z p e R s m args below meth c ws0 wsf vI rr 9 55 [(0, .ref x0), (1, .int x1), (2, .int x2), (3, .long x3), (5, .int x5)] [] (rec x3 x5)) (hkk : ∀ (x3 : Int64), At_ l D cy z p e R s m args below meth c ws0 wsf vI rr 9 83 [(0, .ref x0), (1, .int x1), (2, .int x2), (3, .long x3)] [] (k x3)) (x3 : Int64) (x5 : Int32) : At_ l D cy z p e R s m args below meth c ws0 wsf vI rr 9 55 [(0, .ref x0), (1, .int x1), (2, .int x2), (3, .long x3), (5, .int x5)] [] (b_X11_filtered_55 x0 x1 x2 rec k x3 x5) := by
  intro ws H locs cells slots ls hl hH hF
  obtain ⟨hx, hb, hr, hml, hown, hk, hz, hlocks, hnm, hfr, hlo⟩ := id cx
  unfold b_X11_filtered_55 at hF
  refine lv_iload hx hb dX11_filtered_55 (lv_at hl 4 rfl) ?_
  refine lv_iload_n hx hb dX11_filtered_57 rfl (lv_at hl 2 rfl) ?_
  refine lv_icmp_ge (tgt := 83) hx hb dX11_filtered_58 (by decide) (fun hc10 => ?_) (fun hc10 => ?_)
  · have hF := bq_t hc10 hF
    exact hkk _ _ _ _ _ _ _ (lv_sub hl [0, 1, 2, 3] rfl) hH hF
  · have hF := bq_f hc10 hF
    refine lv_lload_n hx hb dX11_filtered_61 rfl (lv_at hl 3 rfl) ?_
    refine lv_aload_n hx hb dX11_filtered_62 rfl (lv_at hl 0 rfl) ?_
    refine m_gR hx hb hown hk hH hF fk_RX11_latest lk_RX11_50 dX11_filtered_63 (fun v12 hF => ?_)
    refine lv_bipush (v := (9)) hx hb dX11_filtered_66 (by decide) ?_
    refine lv_iload_n hx hb dX11_filtered_68 rfl (lv_at hl 1 rfl) ?_
    refine lv_imul hx hb dX11_filtered_69 ?_
    refine lv_iload hx hb dX11_filtered_70 (lv_at hl 4 rfl) ?_
    refine lv_iadd hx hb dX11_filtered_72 ?_
    refine m_aI0 hx hb hk hH hF dX11_filtered_73 (fun v13 hF => ?_)
    refine lv_i2l hx hb dX11_filtered_74 rfl ?_
    refine lv_ladd hx hb dX11_filtered_75 ?_
    refine lv_topl (fun v14 hv14 => ?_)
    have hF := rt_t hv14 hF
    refine lv_lstore_n (lv' := [(3, .long v14), (0, .ref x0), (1, .int x1), (2, .int x2), (5, .int x5)]) hx hb dX11_filtered_76 rfl hl (by decide) (by first | rfl | simp [m_cat, m_ci, m_cl, m_cf, m_cd, m_cr]) (fun ls hl => ?_)
    refine lv_iinc (v := (x5 + (1 : Int32))) (lv' := [(5, .int (x5 + (1 : Int32))), (3, .long v14), (0, .ref x0), (1, .int x1), (2, .int x2)]) hx hb dX11_filtered_77 hl (k := 4) rfl (by first | rfl | (congr 1)) (by decide) (by first | rfl | simp [m_cat, m_ci, m_cl, m_cf, m_cd, m_cr]) (fun ls hl => ?_)
    refine lv_goto (tgt := 55) hx hb dX11_filtered_80 (by decide) ?_
    exact hrec _ _ _ _ _ _ _ _ (lv_sub hl [2, 3, 4, 1, 0] rfl) hH hF
theorem w_X11_filtered_55 {l : Launch} {D : va_G} {cy : Nat → ClassId} {z : Nat} {p : Program} {e : Env} {R : Room} {s : State} {m : MethodId} {args : Array Value} {below : List Frame} {meth : Method} {c : Code} {ws0 wsf : WS} {rr : Int32} (cx : Cx D cy z RX11 cX11_filtered 9 (some .int) 2 67 "filtered" p R s m meth c) (hE : AC ws0 wsf R.cells R.slots) (x0 : Nat) (x1 : Int32) (x2 : Int32) (k : Int64 → St (Int32)) (hkk : ∀ (x3 : Int64), At_ l D cy z p e R s m args below meth c ws0 wsf vI rr 9 83 [(0, .ref x0), (1, .int x1), (2, .int x2), (3, .long x3)] [] (k x3)) : ∀ (n : Nat) (x3 : Int64) (x5 : Int32), At_ l D cy z p e R s m args below meth c ws0 wsf vI rr 9 55 [(0, .ref x0), (1, .int x1), (2, .int x2), (3, .long x3), (5, .int x5)] [] (l_X11_filtered_55 x0 x1 x2 k n x3 x5) := by
  intro n
  induction n with
  | zero =>
    intro x3 x5 ws H locs cells slots ls hl hH hF
    exact fl_t hF
  | succ n ih =>
    intro x3 x5
    exact wb_X11_filtered_55 cx hE x0 x1 x2 (l_X11_filtered_55 x0 x1 x2 k n) k ih hkk x3 x5
set_option maxHeartbeats 4000000 in
set_option maxRecDepth 100000 in
theorem w_X11_filtered_196 {l : Launch} {D : va_G} {cy : Nat → ClassId} {z : Nat} {p : Program} {e : Env} {R : Room} {s : State} {m : MethodId} {args : Array Value} {below : List Frame} {meth : Method} {c : Code} {ws0 wsf : WS} {rr : Int32} (cx : Cx D cy z RX11 cX11_filtered 9 (some .int) 2 67 "filtered" p R s m meth c) (hE : AC ws0 wsf R.cells R.slots) (rec : Int32 → Int32 → Int32 → St (Int32)) (k : Int32 → Int32 → St (Int32)) (x0 : Nat) (x1 : Int32) (x2 : Int32) (x5 : Int32) (hrec : ∀ (x6 : Int32) (x7 : Int32) (x8 : Int32), At_ l D cy z p e R s m args below meth c ws0 wsf vI rr 9 119 [(0, .ref x0), (1, .int x1), (2, .int x2), (5, .int x5), (6, .int x6), (7, .int x7), (8, .int x8)] [] (rec x6 x7 x8)) (hkk : ∀ (x6 : Int32) (x7 : Int32), At_ l D cy z p e R s m args below meth c ws0 wsf vI rr 9 205 [(0, .ref x0), (1, .int x1), (2, .int x2), (5, .int x5), (6, .int x6), (7, .int x7)] [] (k x6 x7)) (x6 : Int32) (x8 : Int32) (s0 : Int32) (s1 : Int32) : At_ l D cy z p e R s m args below meth c ws0 wsf vI rr 9 196 [(0, .ref x0), (1, .int x1), (2, .int x2), (5, .int x5), (6, .int x6), (8, .int x8)] [.int s1, .int s0] (j_X11_filtered_196 rec k x0 x1 x2 x5 x6 x8 s0 s1) := by
  intro ws H locs cells slots ls hl hH hF
  obtain ⟨hx, hb, hr, hml, hown, hk, hz, hlocks, hnm, hfr, hlo⟩ := id cx
  unfold j_X11_filtered_196 at hF
  refine lv_iadd hx hb dX11_filtered_196 ?_
  refine lv_topi (fun v32 hv32 => ?_)
  have hF := rt_t hv32 hF
  refine lv_istore (lv' := [(7, .int v32), (0, .ref x0), (1, .int x1), (2, .int x2), (5, .int x5), (6, .int x6), (8, .int x8)]) hx hb dX11_filtered_197 hl (by decide) (by first | rfl | simp [m_cat, m_ci, m_cl, m_cf, m_cd, m_cr]) (fun ls hl => ?_)
  refine lv_iinc (v := (x8 + (1 : Int32))) (lv' := [(8, .int (x8 + (1 : Int32))), (7, .int v32), (0, .ref x0), (1, .int x1), (2, .int x2), (5, .int x5), (6, .int x6)]) hx hb dX11_filtered_199 hl (k := 6) rfl (by first | rfl | (congr 1)) (by decide) (by first | rfl | simp [m_cat, m_ci, m_cl, m_cf, m_cd, m_cr]) (fun ls hl => ?_)
  refine lv_goto (tgt := 119) hx hb dX11_filtered_202 (by decide) ?_
  exact hrec _ _ _ _ _ _ _ _ _ (lv_sub hl [2, 3, 4, 5, 6, 1, 0] rfl) hH hF
set_option maxHeartbeats 4000000 in
set_option maxRecDepth 100000 in
theorem w_X11_filtered_159 {l : Launch} {D : va_G} {cy : Nat → ClassId} {z : Nat} {p : Program} {e : Env} {R : Room} {s : State} {m : MethodId} {args : Array Value} {below : List Frame} {meth : Method} {c : Code} {ws0 wsf : WS} {rr : Int32} (cx : Cx D cy z RX11 cX11_filtered 9 (some .int) 2 67 "filtered" p R s m meth c) (hE : AC ws0 wsf R.cells R.slots) (rec : Int32 → Int32 → Int32 → St (Int32)) (k : Int32 → Int32 → St (Int32)) (x0 : Nat) (x1 : Int32) (x2 : Int32) (x5 : Int32) (hrec : ∀ (x6 : Int32) (x7 : Int32) (x8 : Int32), At_ l D cy z p e R s m args below meth c ws0 wsf vI rr 9 119 [(0, .ref x0), (1, .int x1), (2, .int x2), (5, .int x5), (6, .int x6), (7, .int x7), (8, .int x8)] [] (rec x6 x7 x8)) (hkk : ∀ (x6 : Int32) (x7 : Int32), At_ l D cy z p e R s m args below meth c ws0 wsf vI rr 9 205 [(0, .ref x0), (1, .int x1), (2, .int x2), (5, .int x5), (6, .int x6), (7, .int x7)] [] (k x6 x7)) (x7 : Int32) (x8 : Int32) (s0 : Int32) (s1 : Int32) : At_ l D cy z p e R s m args below meth c ws0 wsf vI rr 9 159 [(0, .ref x0), (1, .int x1), (2, .int x2), (5, .int x5), (7, .int x7), (8, .int x8)] [.int s1, .int s0] (j_X11_filtered_159 rec k x0 x1 x2 x5 x7 x8 s0 s1) := by
  intro ws H locs cells slots ls hl hH hF
  obtain ⟨hx, hb, hr, hml, hown, hk, hz, hlocks, hnm, hfr, hlo⟩ := id cx
  unfold j_X11_filtered_159 at hF
  refine lv_iadd hx hb dX11_filtered_159 ?_
  refine lv_topi (fun v26 hv26 => ?_)
  have hF := rt_t hv26 hF
  refine lv_istore (lv' := [(6, .int v26), (0, .ref x0), (1, .int x1), (2, .int x2), (5, .int x5), (7, .int x7), (8, .int x8)]) hx hb dX11_filtered_160 hl (by decide) (by first | rfl | simp [m_cat, m_ci, m_cl, m_cf, m_cd, m_cr]) (fun ls hl => ?_)
  refine lv_iload hx hb dX11_filtered_162 (lv_at hl 5 rfl) ?_
  refine lv_aload_n hx hb dX11_filtered_164 rfl (lv_at hl 1 rfl) ?_
  refine m_gR hx hb hown hk hH hF fk_RX11_latest lk_RX11_50 dX11_filtered_165 (fun v27 hF => ?_)
  refine lv_bipush (v := (9)) hx hb dX11_filtered_168 (by decide) ?_
  refine lv_iload_n hx hb dX11_filtered_170 rfl (lv_at hl 2 rfl) ?_
  refine lv_imul hx hb dX11_filtered_171 ?_
  refine lv_iload hx hb dX11_filtered_172 (lv_at hl 6 rfl) ?_
  refine lv_iadd hx hb dX11_filtered_174 ?_
  refine m_aI0 hx hb hk hH hF dX11_filtered_175 (fun v28 hF => ?_)
  refine lv_aload_n hx hb dX11_filtered_176 rfl (lv_at hl 1 rfl) ?_
  refine m_gR hx hb hown hk hH hF fk_RX11_latest lk_RX11_50 dX11_filtered_177 (fun v29 hF => ?_)
  refine lv_bipush (v := (9)) hx hb dX11_filtered_180 (by decide) ?_
  refine lv_iload_n hx hb dX11_filtered_182 rfl (lv_at hl 2 rfl) ?_
  refine lv_imul hx hb dX11_filtered_183 ?_
  refine lv_iload hx hb dX11_filtered_184 (lv_at hl 4 rfl) ?_
  refine lv_iadd hx hb dX11_filtered_186 ?_
  refine m_aI0 hx hb hk hH hF dX11_filtered_187 (fun v30 hF => ?_)
  refine lv_icmp_ne (tgt := 195) hx hb dX11_filtered_188 (by decide) (fun hc30 => ?_) (fun hc30 => ?_)
  · have hF := bq_f hc30 hF
    refine lv_iconst (v := (0)) hx hb dX11_filtered_195 (by decide) ?_
    exact w_X11_filtered_196 cx hE _ _ x0 x1 x2 x5 hrec hkk v26 x8 x7 (0 : Int32) _ _ _ _ _ _ (lv_sub hl [1, 2, 3, 4, 0, 6] rfl) hH hF
  · have hF := bq_t hc30 hF
    refine lv_iconst (v := (1)) hx hb dX11_filtered_191 (by decide) ?_
    refine lv_goto (tgt := 196) hx hb dX11_filtered_192 (by decide) ?_
    exact w_X11_filtered_196 cx hE _ _ x0 x1 x2 x5 hrec hkk v26 x8 x7 (1 : Int32) _ _ _ _ _ _ (lv_sub hl [1, 2, 3, 4, 0, 6] rfl) hH hF
set_option maxHeartbeats 4000000 in
set_option maxRecDepth 100000 in
theorem wb_X11_filtered_119 {l : Launch} {D : va_G} {cy : Nat → ClassId} {z : Nat} {p : Program} {e : Env} {R : Room} {s : State} {m : MethodId} {args : Array Value} {below : List Frame} {meth : Method} {c : Code} {ws0 wsf : WS} {rr : Int32} (cx : Cx D cy z RX11 cX11_filtered 9 (some .int) 2 67 "filtered" p R s m meth c) (hE : AC ws0 wsf R.cells R.slots) (x0 : Nat) (x1 : Int32) (x2 : Int32) (x5 : Int32) (rec : Int32 → Int32 → Int32 → St (Int32)) (k : Int32 → Int32 → St (Int32)) (hrec : ∀ (x6 : Int32) (x7 : Int32) (x8 : Int32), At_ l D cy z p e R s m args below meth c ws0 wsf vI rr 9 119 [(0, .ref x0), (1, .int x1), (2, .int x2), (5, .int x5), (6, .int x6), (7, .int x7), (8, .int x8)] [] (rec x6 x7 x8)) (hkk : ∀ (x6 : Int32) (x7 : Int32), At_ l D cy z p e R s m args below meth c ws0 wsf vI rr 9 205 [(0, .ref x0), (1, .int x1), (2, .int x2), (5, .int x5), (6, .int x6), (7, .int x7)] [] (k x6 x7)) (x6 : Int32) (x7 : Int32) (x8 : Int32) : At_ l D cy z p e R s m args below meth c ws0 wsf vI rr 9 119 [(0, .ref x0), (1, .int x1), (2, .int x2), (5, .int x5), (6, .int x6), (7, .int x7), (8, .int x8)] [] (b_X11_filtered_119 x0 x1 x2 x5 rec k x6 x7 x8) := by
  intro ws H locs cells slots ls hl hH hF
  obtain ⟨hx, hb, hr, hml, hown, hk, hz, hlocks, hnm, hfr, hlo⟩ := id cx
  unfold b_X11_filtered_119 at hF
  refine lv_iload hx hb dX11_filtered_119 (lv_at hl 6 rfl) ?_
  refine lv_iload_n hx hb dX11_filtered_121 rfl (lv_at hl 2 rfl) ?_
  refine lv_icmp_ge (tgt := 205) hx hb dX11_filtered_122 (by decide) (fun hc19 => ?_) (fun hc19 => ?_)
  · have hF := bq_t hc19 hF
    exact hkk _ _ _ _ _ _ _ _ (lv_sub hl [0, 1, 2, 3, 4, 5] rfl) hH hF
  · have hF := bq_f hc19 hF
    refine lv_iload hx hb dX11_filtered_125 (lv_at hl 4 rfl) ?_
    refine lv_aload_n hx hb dX11_filtered_127 rfl (lv_at hl 0 rfl) ?_
    refine m_gR hx hb hown hk hH hF fk_RX11_latest lk_RX11_50 dX11_filtered_128 (fun v21 hF => ?_)
    refine lv_bipush (v := (9)) hx hb dX11_filtered_131 (by decide) ?_
    refine lv_iload_n hx hb dX11_filtered_133 rfl (lv_at hl 1 rfl) ?_
    refine lv_imul hx hb dX11_filtered_134 ?_
    refine lv_iload hx hb dX11_filtered_135 (lv_at hl 6 rfl) ?_
    refine lv_iadd hx hb dX11_filtered_137 ?_
    refine m_aI0 hx hb hk hH hF dX11_filtered_138 (fun v22 hF => ?_)
    refine lv_aload_n hx hb dX11_filtered_139 rfl (lv_at hl 0 rfl) ?_
    refine m_gR hx hb hown hk hH hF fk_RX11_latest lk_RX11_50 dX11_filtered_140 (fun v23 hF => ?_)
    refine lv_bipush (v := (9)) hx hb dX11_filtered_143 (by decide) ?_
    refine lv_iload_n hx hb dX11_filtered_145 rfl (lv_at hl 1 rfl) ?_
    refine lv_imul hx hb dX11_filtered_146 ?_
    refine lv_iload hx hb dX11_filtered_147 (lv_at hl 3 rfl) ?_
    refine lv_iadd hx hb dX11_filtered_149 ?_
    refine m_aI0 hx hb hk hH hF dX11_filtered_150 (fun v24 hF => ?_)
    refine lv_icmp_ge (tgt := 158) hx hb dX11_filtered_151 (by decide) (fun hc24 => ?_) (fun hc24 => ?_)
    · have hF := bq_t hc24 hF
      refine lv_iconst (v := (0)) hx hb dX11_filtered_158 (by decide) ?_
      exact w_X11_filtered_159 cx hE _ _ x0 x1 x2 x5 hrec hkk x7 x8 x6 (0 : Int32) _ _ _ _ _ _ (lv_sub hl [0, 1, 2, 3, 5, 6] rfl) hH hF
    · have hF := bq_f hc24 hF
      refine lv_iconst (v := (1)) hx hb dX11_filtered_154 (by decide) ?_
      refine lv_goto (tgt := 159) hx hb dX11_filtered_155 (by decide) ?_
      exact w_X11_filtered_159 cx hE _ _ x0 x1 x2 x5 hrec hkk x7 x8 x6 (1 : Int32) _ _ _ _ _ _ (lv_sub hl [0, 1, 2, 3, 5, 6] rfl) hH hF
theorem w_X11_filtered_119 {l : Launch} {D : va_G} {cy : Nat → ClassId} {z : Nat} {p : Program} {e : Env} {R : Room} {s : State} {m : MethodId} {args : Array Value} {below : List Frame} {meth : Method} {c : Code} {ws0 wsf : WS} {rr : Int32} (cx : Cx D cy z RX11 cX11_filtered 9 (some .int) 2 67 "filtered" p R s m meth c) (hE : AC ws0 wsf R.cells R.slots) (x0 : Nat) (x1 : Int32) (x2 : Int32) (x5 : Int32) (k : Int32 → Int32 → St (Int32)) (hkk : ∀ (x6 : Int32) (x7 : Int32), At_ l D cy z p e R s m args below meth c ws0 wsf vI rr 9 205 [(0, .ref x0), (1, .int x1), (2, .int x2), (5, .int x5), (6, .int x6), (7, .int x7)] [] (k x6 x7)) : ∀ (n : Nat) (x6 : Int32) (x7 : Int32) (x8 : Int32), At_ l D cy z p e R s m args below meth c ws0 wsf vI rr 9 119 [(0, .ref x0), (1, .int x1), (2, .int x2), (5, .int x5), (6, .int x6), (7, .int x7), (8, .int x8)] [] (l_X11_filtered_119 x0 x1 x2 x5 k n x6 x7 x8) := by
  intro n
  induction n with
  | zero =>
    intro x6 x7 x8 ws H locs cells slots ls hl hH hF
    exact fl_t hF
  | succ n ih =>
    intro x6 x7 x8
    exact wb_X11_filtered_119 cx hE x0 x1 x2 x5 (l_X11_filtered_119 x0 x1 x2 x5 k n) k ih hkk x6 x7 x8
set_option maxHeartbeats 4000000 in
set_option maxRecDepth 100000 in
theorem w_X11_filtered_241 {l : Launch} {D : va_G} {cy : Nat → ClassId} {z : Nat} {p : Program} {e : Env} {R : Room} {s : State} {m : MethodId} {args : Array Value} {below : List Frame} {meth : Method} {c : Code} {ws0 wsf : WS} {rr : Int32} (cx : Cx D cy z RX11 cX11_filtered 9 (some .int) 2 67 "filtered" p R s m meth c) (hE : AC ws0 wsf R.cells R.slots) (rec : Int32 → St (Int32)) (k : St (Int32)) (x0 : Nat) (x1 : Int32) (x2 : Int32) (hrec : ∀ (x5 : Int32), At_ l D cy z p e R s m args below meth c ws0 wsf vI rr 9 104 [(0, .ref x0), (1, .int x1), (2, .int x2), (5, .int x5)] [] (rec x5)) (hkk : At_ l D cy z p e R s m args below meth c ws0 wsf vI rr 9 247 [] [] (k)) (x5 : Int32) : At_ l D cy z p e R s m args below meth c ws0 wsf vI rr 9 241 [(0, .ref x0), (1, .int x1), (2, .int x2), (5, .int x5)] [] (j_X11_filtered_241 rec k x0 x1 x2 x5) := by
  intro ws H locs cells slots ls hl hH hF
  obtain ⟨hx, hb, hr, hml, hown, hk, hz, hlocks, hnm, hfr, hlo⟩ := id cx
  unfold j_X11_filtered_241 at hF
  refine lv_iinc (v := (x5 + (1 : Int32))) (lv' := [(5, .int (x5 + (1 : Int32))), (0, .ref x0), (1, .int x1), (2, .int x2)]) hx hb dX11_filtered_241 hl (k := 3) rfl (by first | rfl | (congr 1)) (by decide) (by first | rfl | simp [m_cat, m_ci, m_cl, m_cf, m_cd, m_cr]) (fun ls hl => ?_)
  refine lv_goto (tgt := 104) hx hb dX11_filtered_244 (by decide) ?_
  exact hrec _ _ _ _ _ _ _ (lv_sub hl [1, 2, 3, 0] rfl) hH hF
set_option maxHeartbeats 4000000 in
set_option maxRecDepth 100000 in
theorem wb_X11_filtered_104 {l : Launch} {D : va_G} {cy : Nat → ClassId} {z : Nat} {p : Program} {e : Env} {R : Room} {s : State} {m : MethodId} {args : Array Value} {below : List Frame} {meth : Method} {c : Code} {ws0 wsf : WS} {rr : Int32} (cx : Cx D cy z RX11 cX11_filtered 9 (some .int) 2 67 "filtered" p R s m meth c) (hE : AC ws0 wsf R.cells R.slots) (x0 : Nat) (x1 : Int32) (x2 : Int32) (rec : Int32 → St (Int32)) (k : St (Int32)) (hrec : ∀ (x5 : Int32), At_ l D cy z p e R s m args below meth c ws0 wsf vI rr 9 104 [(0, .ref x0), (1, .int x1), (2, .int x2), (5, .int x5)] [] (rec x5)) (hkk : At_ l D cy z p e R s m args below meth c ws0 wsf vI rr 9 247 [] [] (k)) (x5 : Int32) : At_ l D cy z p e R s m args below meth c ws0 wsf vI rr 9 104 [(0, .ref x0), (1, .int x1), (2, .int x2), (5, .int x5)] [] (b_X11_filtered_104 x0 x1 x2 rec k x5) := by
  intro ws H locs cells slots ls hl hH hF
  obtain ⟨hx, hb, hr, hml, hown, hk, hz, hlocks, hnm, hfr, hlo⟩ := id cx
  unfold b_X11_filtered_104 at hF
  refine lv_iload hx hb dX11_filtered_104 (lv_at hl 3 rfl) ?_
  refine lv_iload_n hx hb dX11_filtered_106 rfl (lv_at hl 2 rfl) ?_
  refine lv_icmp_ge (tgt := 247) hx hb dX11_filtered_107 (by decide) (fun hc18 => ?_) (fun hc18 => ?_)
  · have hF := bq_t hc18 hF
    exact hkk _ _ _ _ _ _ (lv_sub hl [] rfl) hH hF
  · have hF := bq_f hc18 hF
    refine lv_iconst (v := (0)) hx hb dX11_filtered_110 (by decide) ?_
    refine lv_istore (lv' := [(6, .int (0 : Int32)), (0, .ref x0), (1, .int x1), (2, .int x2), (5, .int x5)]) hx hb dX11_filtered_111 hl (by decide) (by first | rfl | simp [m_cat, m_ci, m_cl, m_cf, m_cd, m_cr]) (fun ls hl => ?_)
    refine lv_iconst (v := (0)) hx hb dX11_filtered_113 (by decide) ?_
    refine lv_istore (lv' := [(7, .int (0 : Int32)), (6, .int (0 : Int32)), (0, .ref x0), (1, .int x1), (2, .int x2), (5, .int x5)]) hx hb dX11_filtered_114 hl (by decide) (by first | rfl | simp [m_cat, m_ci, m_cl, m_cf, m_cd, m_cr]) (fun ls hl => ?_)
    refine lv_iconst (v := (0)) hx hb dX11_filtered_116 (by decide) ?_
    refine lv_istore (lv' := [(8, .int (0 : Int32)), (7, .int (0 : Int32)), (6, .int (0 : Int32)), (0, .ref x0), (1, .int x1), (2, .int x2), (5, .int x5)]) hx hb dX11_filtered_117 hl (by decide) (by first | rfl | simp [m_cat, m_ci, m_cl, m_cf, m_cd, m_cr]) (fun ls hl => ?_)
    refine w_X11_filtered_119 cx hE x0 x1 x2 x5 _ (fun e33 e34 ws H locs cells slots ls hl hH hF => ?_) _ _ _ _ _ _ _ _ _ _ (lv_sub hl [3, 4, 5, 6, 2, 1, 0] rfl) hH hF
    refine lv_iload hx hb dX11_filtered_205 (lv_at hl 4 rfl) ?_
    refine lv_iload_n hx hb dX11_filtered_207 rfl (lv_at hl 2 rfl) ?_
    refine lv_iconst (v := (1)) hx hb dX11_filtered_208 (by decide) ?_
    refine lv_isub hx hb dX11_filtered_209 ?_
    refine lv_iconst (v := (2)) hx hb dX11_filtered_210 (by decide) ?_
    refine lv_idiv hx hb dX11_filtered_211 (by decide) ?_
    refine lv_icmp_gt (tgt := 241) hx hb dX11_filtered_212 (by decide) (fun hc34 => ?_) (fun hc34 => ?_)
    · have hF := bq_t hc34 hF
      exact w_X11_filtered_241 cx hE _ _ x0 x1 x2 hrec hkk x5 _ _ _ _ _ _ (lv_sub hl [0, 1, 2, 3] rfl) hH hF
    · have hF := bq_f hc34 hF
      refine lv_iload hx hb dX11_filtered_215 (lv_at hl 4 rfl) ?_
      refine lv_iload hx hb dX11_filtered_217 (lv_at hl 5 rfl) ?_
      refine lv_iadd hx hb dX11_filtered_219 ?_
      refine lv_iload_n hx hb dX11_filtered_220 rfl (lv_at hl 2 rfl) ?_
      refine lv_iconst (v := (1)) hx hb dX11_filtered_221 (by decide) ?_
      refine lv_isub hx hb dX11_filtered_222 ?_
      refine lv_iconst (v := (2)) hx hb dX11_filtered_223 (by decide) ?_
      refine lv_idiv hx hb dX11_filtered_224 (by decide) ?_
      refine lv_icmp_le (tgt := 241) hx hb dX11_filtered_225 (by decide) (fun hc35 => ?_) (fun hc35 => ?_)
      · have hF := bq_t hc35 hF
        exact w_X11_filtered_241 cx hE _ _ x0 x1 x2 hrec hkk x5 _ _ _ _ _ _ (lv_sub hl [0, 1, 2, 3] rfl) hH hF
      · have hF := bq_f hc35 hF
        refine lv_aload_n hx hb dX11_filtered_228 rfl (lv_at hl 0 rfl) ?_
        refine m_gR hx hb hown hk hH hF fk_RX11_latest lk_RX11_50 dX11_filtered_229 (fun v37 hF => ?_)
        refine lv_bipush (v := (9)) hx hb dX11_filtered_232 (by decide) ?_
        refine lv_iload_n hx hb dX11_filtered_234 rfl (lv_at hl 1 rfl) ?_
        refine lv_imul hx hb dX11_filtered_235 ?_
        refine lv_iload hx hb dX11_filtered_236 (lv_at hl 3 rfl) ?_
        refine lv_iadd hx hb dX11_filtered_238 ?_
        refine m_aI0 hx hb hk hH hF dX11_filtered_239 (fun v38 hF => ?_)
        exact m_iret hx hb hr hlocks hH hE hF rfl dX11_filtered_240
theorem w_X11_filtered_104 {l : Launch} {D : va_G} {cy : Nat → ClassId} {z : Nat} {p : Program} {e : Env} {R : Room} {s : State} {m : MethodId} {args : Array Value} {below : List Frame} {meth : Method} {c : Code} {ws0 wsf : WS} {rr : Int32} (cx : Cx D cy z RX11 cX11_filtered 9 (some .int) 2 67 "filtered" p R s m meth c) (hE : AC ws0 wsf R.cells R.slots) (x0 : Nat) (x1 : Int32) (x2 : Int32) (k : St (Int32)) (hkk : At_ l D cy z p e R s m args below meth c ws0 wsf vI rr 9 247 [] [] (k)) : ∀ (n : Nat) (x5 : Int32), At_ l D cy z p e R s m args below meth c ws0 wsf vI rr 9 104 [(0, .ref x0), (1, .int x1), (2, .int x2), (5, .int x5)] [] (l_X11_filtered_104 x0 x1 x2 k n x5) := by
  intro n
  induction n with
  | zero =>
    intro x5 ws H locs cells slots ls hl hH hF
    exact fl_t hF
  | succ n ih =>
    intro x5
    exact wb_X11_filtered_104 cx hE x0 x1 x2 (l_X11_filtered_104 x0 x1 x2 k n) k ih hkk x5
set_option maxHeartbeats 4000000 in
set_option maxRecDepth 100000 in
theorem w_X11_filtered_30 {l : Launch} {D : va_G} {cy : Nat → ClassId} {z : Nat} {p : Program} {e : Env} {R : Room} {s : State} {m : MethodId} {args : Array Value} {below : List Frame} {meth : Method} {c : Code} {ws0 wsf : WS} {rr : Int32} (cx : Cx D cy z RX11 cX11_filtered 9 (some .int) 2 67 "filtered" p R s m meth c) (hE : AC ws0 wsf R.cells R.slots) (x0 : Nat) (x1 : Int32) (s0 : Int32) : At_ l D cy z p e R s m args below meth c ws0 wsf vI rr 9 30 [(0, .ref x0), (1, .int x1)] [.int s0] (j_X11_filtered_30 x0 x1 s0) := by
  intro ws H locs cells slots ls hl hH hF
  obtain ⟨hx, hb, hr, hml, hown, hk, hz, hlocks, hnm, hfr, hlo⟩ := id cx
  unfold j_X11_filtered_30 at hF
  refine lv_istore_n (lv' := [(2, .int s0), (0, .ref x0), (1, .int x1)]) hx hb dX11_filtered_30 rfl hl (by decide) (by first | rfl | simp [m_cat, m_ci, m_cl, m_cf, m_cd, m_cr]) (fun ls hl => ?_)
  refine lv_aload_n hx hb dX11_filtered_31 rfl (lv_at hl 1 rfl) ?_
  refine m_gR hx hb hown hk hH hF fk_RX11_probeFilter lk_RX11_41 dX11_filtered_32 (fun v8 hF => ?_)
  refine lv_iload_n hx hb dX11_filtered_35 rfl (lv_at hl 2 rfl) ?_
  refine m_aI0 hx hb hk hH hF dX11_filtered_36 (fun v9 hF => ?_)
  refine lv_if_ne (tgt := 50) hx hb dX11_filtered_37 (by decide) (fun hc9 => ?_) (fun hc9 => ?_)
  · have hF := bq_f hc9 hF
    refine lv_lconst (v := (0)) hx hb dX11_filtered_50 (by decide) ?_
    refine lv_lstore_n (lv' := [(3, .long (0 : Int64)), (2, .int s0), (0, .ref x0), (1, .int x1)]) hx hb dX11_filtered_51 rfl hl (by decide) (by first | rfl | simp [m_cat, m_ci, m_cl, m_cf, m_cd, m_cr]) (fun ls hl => ?_)
    refine lv_iconst (v := (0)) hx hb dX11_filtered_52 (by decide) ?_
    refine lv_istore (lv' := [(5, .int (0 : Int32)), (3, .long (0 : Int64)), (2, .int s0), (0, .ref x0), (1, .int x1)]) hx hb dX11_filtered_53 hl (by decide) (by first | rfl | simp [m_cat, m_ci, m_cl, m_cf, m_cd, m_cr]) (fun ls hl => ?_)
    refine w_X11_filtered_55 cx hE x0 x1 s0 _ (fun e15 ws H locs cells slots ls hl hH hF => ?_) _ _ _ _ _ _ _ _ _ (lv_sub hl [3, 4, 2, 1, 0] rfl) hH hF
    refine lv_aload_n hx hb dX11_filtered_83 rfl (lv_at hl 0 rfl) ?_
    refine m_gR hx hb hown hk hH hF fk_RX11_probeFilter lk_RX11_41 dX11_filtered_84 (fun v16 hF => ?_)
    refine lv_iload_n hx hb dX11_filtered_87 rfl (lv_at hl 1 rfl) ?_
    refine m_aI0 hx hb hk hH hF dX11_filtered_88 (fun v17 hF => ?_)
    refine lv_iconst (v := (2)) hx hb dX11_filtered_89 (by decide) ?_
    refine lv_icmp_ne (tgt := 101) hx hb dX11_filtered_90 (by decide) (fun hc17 => ?_) (fun hc17 => ?_)
    · have hF := bq_f hc17 hF
      refine lv_iconst (v := (0)) hx hb dX11_filtered_101 (by decide) ?_
      refine lv_istore (lv' := [(5, .int (0 : Int32)), (0, .ref x0), (1, .int x1), (2, .int s0), (3, .long e15)]) hx hb dX11_filtered_102 hl (by decide) (by first | rfl | simp [m_cat, m_ci, m_cl, m_cf, m_cd, m_cr]) (fun ls hl => ?_)
      refine w_X11_filtered_104 cx hE x0 x1 s0 _ (fun ws H locs cells slots ls hl hH hF => ?_) _ _ _ _ _ _ _ _ (lv_sub hl [1, 2, 3, 0] rfl) hH hF
      refine lv_iconst (v := (0)) hx hb dX11_filtered_247 (by decide) ?_
      exact m_iret hx hb hr hlocks hH hE hF rfl dX11_filtered_248
    · have hF := bq_t hc17 hF
      refine lv_lload_n hx hb dX11_filtered_93 rfl (lv_at hl 3 rfl) ?_
      refine lv_iload_n hx hb dX11_filtered_94 rfl (lv_at hl 2 rfl) ?_
      refine lv_i2l hx hb dX11_filtered_95 rfl ?_
      refine m_cSL hx hb hml hown hk hH hE.le hz (As := [.long e15, .long s0.toInt64]) (rest := []) (t_X11_rounded l D cy z e15 s0.toInt64) hF wd_865 wd_866 wd_38 wd_867 yn_X11_rounded ⟨Nat.le_trans (by decide) hfr, Nat.le_trans (by decide) hlo⟩ hl.1 (by first | exact Nat.le_of_ble_eq_true rfl | simp [m_cat, m_ci, m_cl, m_cf, m_cd, m_cr]) rfl dX11_filtered_96 (fun c39 ws H locs cells slots hH hF => ?_)
      refine lv_l2i hx hb dX11_filtered_99 rfl ?_
      exact m_iret hx hb hr hlocks hH hE hF rfl dX11_filtered_100
  · have hF := bq_t hc9 hF
    refine lv_aload_n hx hb dX11_filtered_40 rfl (lv_at hl 1 rfl) ?_
    refine m_gR hx hb hown hk hH hF fk_RX11_latest lk_RX11_50 dX11_filtered_41 (fun v40 hF => ?_)
    refine lv_bipush (v := (9)) hx hb dX11_filtered_44 (by decide) ?_
    refine lv_iload_n hx hb dX11_filtered_46 rfl (lv_at hl 2 rfl) ?_
    refine lv_imul hx hb dX11_filtered_47 ?_
    refine m_aI0 hx hb hk hH hF dX11_filtered_48 (fun v41 hF => ?_)
    exact m_iret hx hb hr hlocks hH hE hF rfl dX11_filtered_49
set_option maxHeartbeats 4000000 in
set_option maxRecDepth 100000 in
theorem t_X11_filtered (l : Launch) (D : va_G) (cy : Nat → ClassId) (z : Nat) (o : Nat) (x1 : Int32) : MT l D cy z yX11_filtered cX11_filtered 9 (some .int) 2 67 (F_X11_filtered o x1) vI [.ref o, .int x1] := by
  refine m_enter [(0, .ref o), (1, .int x1)] (by decide) (by first | rfl | simp [lv_args, m_cat, m_ci, m_cl, m_cf, m_cd, m_cr]) (by first | exact Nat.le_of_ble_eq_true rfl | simp [lg_sl, m_cat, m_ci, m_cl, m_cf, m_cd, m_cr]) ?_
  intro p e R s m args below meth c ws0 wsf rr cx hE ws H locs cells slots ls hl hH hF
  obtain ⟨hx, hb, hr, hml, hown, hk, hz, hlocks, hnm, hfr, hlo⟩ := id cx
  unfold F_X11_filtered at hF
  refine lv_aload_n hx hb dX11_filtered_0 rfl (lv_at hl 0 rfl) ?_
  refine m_gR hx hb hown hk hH hF fk_RX11_fed lk_RX11_47 dX11_filtered_1 (fun v1 hF => ?_)
  refine lv_iload_n hx hb dX11_filtered_4 rfl (lv_at hl 1 rfl) ?_
  refine m_aI0 hx hb hk hH hF dX11_filtered_5 (fun v2 hF => ?_)
  refine lv_aload_n hx hb dX11_filtered_6 rfl (lv_at hl 0 rfl) ?_
  refine m_gR hx hb hown hk hH hF fk_RX11_probeMany lk_RX11_44 dX11_filtered_7 (fun v3 hF => ?_)
  refine lv_iload_n hx hb dX11_filtered_10 rfl (lv_at hl 1 rfl) ?_
  refine m_aI0 hx hb hk hH hF dX11_filtered_11 (fun v4 hF => ?_)
  refine lv_icmp_ge (tgt := 24) hx hb dX11_filtered_12 (by decide) (fun hc4 => ?_) (fun hc4 => ?_)
  · have hF := bq_t hc4 hF
    refine lv_aload_n hx hb dX11_filtered_24 rfl (lv_at hl 0 rfl) ?_
    refine m_gR hx hb hown hk hH hF fk_RX11_probeMany lk_RX11_44 dX11_filtered_25 (fun v6 hF => ?_)
    refine lv_iload_n hx hb dX11_filtered_28 rfl (lv_at hl 1 rfl) ?_
    refine m_aI0 hx hb hk hH hF dX11_filtered_29 (fun v7 hF => ?_)
    exact w_X11_filtered_30 cx hE o x1 v7 _ _ _ _ _ _ (lv_sub hl [0, 1] rfl) hH hF
  · have hF := bq_f hc4 hF
    refine lv_aload_n hx hb dX11_filtered_15 rfl (lv_at hl 0 rfl) ?_
    refine m_gR hx hb hown hk hH hF fk_RX11_fed lk_RX11_47 dX11_filtered_16 (fun v42 hF => ?_)
    refine lv_iload_n hx hb dX11_filtered_19 rfl (lv_at hl 1 rfl) ?_
    refine m_aI0 hx hb hk hH hF dX11_filtered_20 (fun v43 hF => ?_)
    refine lv_goto (tgt := 30) hx hb dX11_filtered_21 (by decide) ?_
    exact w_X11_filtered_30 cx hE o x1 v43 _ _ _ _ _ _ (lv_sub hl [0, 1] rfl) hH hF
