def b_X0_init_78 (x0 : Nat) (rec : Int32 → St (Unit)) (k : St (Unit)) (x1 : Int32) : St (Unit) :=
  br ((8 : Int32) ≤ x1) (k) (bd (gR [0] 0 (some x0)) fun v11 => bd (sI 0 v11 x1 (-1 : Int32)) fun _ => rec (x1 + (1 : Int32)))
def l_X0_init_78 (x0 : Nat) (k : St (Unit)) : Nat → Int32 → St (Unit)
  | 0 => fun _ => fl
  | n + 1 => fun x1 => b_X0_init_78 x0 (l_X0_init_78 x0 k n) k x1
def F_X0_init (o : Nat) : St (Unit) :=
  bd (nA 0 (8 : Int32)) fun a1 => bd (pV [0] 0 (some o) (va_rf (some a1))) fun _ => bd (nA 1 (64 : Int32)) fun a2 => bd (pV [0] 1 (some o) (va_rf (some a2))) fun _ => bd (nA 2 (64 : Int32)) fun a3 => bd (pV [0] 2 (some o) (va_rf (some a3))) fun _ => bd (nA 3 (64 : Int32)) fun a4 => bd (pV [0] 3 (some o) (va_rf (some a4))) fun _ => bd (nA 0 (64 : Int32)) fun a5 => bd (pV [0] 4 (some o) (va_rf (some a5))) fun _ => bd (nA 4 (64 : Int32)) fun a6 => bd (pV [0] 5 (some o) (va_rf (some a6))) fun _ => bd (nA 5 (64 : Int32)) fun a7 => bd (pV [0] 6 (some o) (va_rf (some a7))) fun _ => bd (nA 6 (64 : Int32)) fun a8 => bd (pV [0] 7 (some o) (va_rf (some a8))) fun _ => bd (nA 7 (64 : Int32)) fun a9 => bd (pV [0] 8 (some o) (va_rf (some a9))) fun _ => l_X0_init_78 o (rt ()) FU (0 : Int32)
set_option maxHeartbeats 4000000 in
set_option maxRecDepth 100000 in
theorem wb_X0_init_78 {l : Launch} {D : va_G} {cy : Nat → ClassId} {z : Nat} {p : Program} {e : Env} {R : Room} {s : State} {m : MethodId} {args : Array Value} {below : List Frame} {meth : Method} {c : Code} {ws0 wsf : WS} {rr : Unit} (cx : Cx D cy z RX0 cX0_init 2 none 1 40 "<init>" p R s m meth c) (hE : AC ws0 wsf R.cells R.slots) (x0 : Nat) (rec : Int32 → St (Unit)) (k : St (Unit)) (hrec : ∀ (x1 : Int32), At_ l D cy z p e R s m args below meth c ws0 wsf vU rr 2 78 [(0, .ref x0), (1, .int x1)] [] (rec x1)) (hkk : At_ l D cy z p e R s m args below meth c ws0 wsf vU rr 2 97 [] [] (k)) (x1 : Int32) : At_ l D cy z p e R s m args below meth c ws0 wsf vU rr 2 78 [(0, .ref x0), (1, .int x1)] [] (b_X0_init_78 x0 rec k x1) := by
  intro ws H locs cells slots ls hl hH hF
  obtain ⟨hx, hb, hr, hml, hown, hk, hz, hlocks, hnm, hfr, hlo⟩ := id cx
  unfold b_X0_init_78 at hF
  refine lv_iload_n hx hb dX0_init_78 rfl (lv_at hl 1 rfl) ?_
  refine lv_bipush (v := (8)) hx hb dX0_init_79 (by decide) ?_
  refine lv_icmp_ge (tgt := 97) hx hb dX0_init_81 (by decide) (fun hc9 => ?_) (fun hc9 => ?_)
  · have hF := bq_t hc9 hF
    exact hkk _ _ _ _ _ _ (lv_sub hl [] rfl) hH hF
  · have hF := bq_f hc9 hF
    refine lv_aload_n hx hb dX0_init_84 rfl (lv_at hl 0 rfl) ?_
    refine m_gR hx hb hown hk hH hF fk_RX0_sizes lk_RX0_9 dX0_init_85 (fun v11 hF => ?_)
    refine lv_iload_n hx hb dX0_init_88 rfl (lv_at hl 1 rfl) ?_
    refine lv_iconst (v := (-1)) hx hb dX0_init_89 (by decide) ?_
    refine m_sI0 hx hb hk hH hF dX0_init_90 (fun ws H locs hH hF => ?_)
    refine lv_iinc (v := (x1 + (1 : Int32))) (lv' := [(1, .int (x1 + (1 : Int32))), (0, .ref x0)]) hx hb dX0_init_91 hl (k := 1) rfl (by first | rfl | (congr 1)) (by decide) (by first | rfl | simp [m_cat, m_ci, m_cl, m_cf, m_cd, m_cr]) (fun ls hl => ?_)
    refine lv_goto (tgt := 78) hx hb dX0_init_94 (by decide) ?_
    exact hrec _ _ _ _ _ _ _ (lv_sub hl [1, 0] rfl) hH hF
theorem w_X0_init_78 {l : Launch} {D : va_G} {cy : Nat → ClassId} {z : Nat} {p : Program} {e : Env} {R : Room} {s : State} {m : MethodId} {args : Array Value} {below : List Frame} {meth : Method} {c : Code} {ws0 wsf : WS} {rr : Unit} (cx : Cx D cy z RX0 cX0_init 2 none 1 40 "<init>" p R s m meth c) (hE : AC ws0 wsf R.cells R.slots) (x0 : Nat) (k : St (Unit)) (hkk : At_ l D cy z p e R s m args below meth c ws0 wsf vU rr 2 97 [] [] (k)) : ∀ (n : Nat) (x1 : Int32), At_ l D cy z p e R s m args below meth c ws0 wsf vU rr 2 78 [(0, .ref x0), (1, .int x1)] [] (l_X0_init_78 x0 k n x1) := by
  intro n
  induction n with
  | zero =>
    intro x1 ws H locs cells slots ls hl hH hF
    exact fl_t hF
  | succ n ih =>
    intro x1
    exact wb_X0_init_78 cx hE x0 (l_X0_init_78 x0 k n) k ih hkk x1
set_option maxHeartbeats 4000000 in
set_option maxRecDepth 100000 in
theorem t_X0_init (l : Launch) (D : va_G) (cy : Nat → ClassId) (z : Nat) (o : Nat) : MT l D cy z yX0_init cX0_init 2 none 1 40 (F_X0_init o) vU [.ref o] := by
  refine m_enter [(0, .ref o)] (by decide) (by first | rfl | simp [lv_args, m_cat, m_ci, m_cl, m_cf, m_cd, m_cr]) (by first | exact Nat.le_of_ble_eq_true rfl | simp [lg_sl, m_cat, m_ci, m_cl, m_cf, m_cd, m_cr]) ?_
  intro p e R s m args below meth c ws0 wsf rr cx hE ws H locs cells slots ls hl hH hF
  obtain ⟨hx, hb, hr, hml, hown, hk, hz, hlocks, hnm, hfr, hlo⟩ := id cx
  unfold F_X0_init at hF
  refine lv_aload_n hx hb dX0_init_0 rfl (lv_at hl 0 rfl) ?_
  refine W.objInit hx hb hown (hk.wd wd_67 args) (hk.wd wd_52 args) (hk.wd wd_53 args) rfl (by rw [hml]; exact hl.1) rfl dX0_init_1 (Nat.le_trans (by decide) hfr) (Nat.le_trans (m := 40) (by first | exact Nat.le_of_ble_eq_true rfl | simp [m_cat, m_ci, m_cl, m_cf, m_cd, m_cr]) (Nat.le_trans (by decide) hlo)) ?_
  refine W.eq (g2 := F0 m 4 ls []) rfl ?_
  refine lv_aload_n hx hb dX0_init_4 rfl (lv_at hl 0 rfl) ?_
  refine lv_bipush (v := (8)) hx hb dX0_init_5 (by decide) ?_
  refine m_nA (t := 0) hx hb hk hH hE.le hz (by decide) rfl (by decide) wd_96 hF dX0_init_7 (fun a1 ws H hH hF => ?_)
  refine m_pVF hx hb hown hk hH hnm hF fk_RX0_sizes wd_68 rfl pd_0 (m_nra _ _) (m_fra _ _) dX0_init_9 (fun ws H locs hH hF => ?_)
  refine lv_aload_n hx hb dX0_init_12 rfl (lv_at hl 0 rfl) ?_
  refine lv_bipush (v := (64)) hx hb dX0_init_13 (by decide) ?_
  refine m_nA (t := 1) hx hb hk hH hE.le hz (by decide) rfl (by decide) wd_97 hF dX0_init_15 (fun a2 ws H hH hF => ?_)
  refine m_pVF hx hb hown hk hH hnm hF fk_RX0_bytes wd_69 rfl pd_1 (m_nra _ _) (m_fra _ _) dX0_init_17 (fun ws H locs hH hF => ?_)
  refine lv_aload_n hx hb dX0_init_20 rfl (lv_at hl 0 rfl) ?_
  refine lv_bipush (v := (64)) hx hb dX0_init_21 (by decide) ?_
  refine m_nA (t := 2) hx hb hk hH hE.le hz (by decide) rfl (by decide) wd_98 hF dX0_init_23 (fun a3 ws H hH hF => ?_)
  refine m_pVF hx hb hown hk hH hnm hF fk_RX0_chars wd_70 rfl pd_2 (m_nra _ _) (m_fra _ _) dX0_init_25 (fun ws H locs hH hF => ?_)
  refine lv_aload_n hx hb dX0_init_28 rfl (lv_at hl 0 rfl) ?_
  refine lv_bipush (v := (64)) hx hb dX0_init_29 (by decide) ?_
  refine m_nA (t := 3) hx hb hk hH hE.le hz (by decide) rfl (by decide) wd_99 hF dX0_init_31 (fun a4 ws H hH hF => ?_)
  refine m_pVF hx hb hown hk hH hnm hF fk_RX0_shorts wd_71 rfl pd_3 (m_nra _ _) (m_fra _ _) dX0_init_33 (fun ws H locs hH hF => ?_)
  refine lv_aload_n hx hb dX0_init_36 rfl (lv_at hl 0 rfl) ?_
  refine lv_bipush (v := (64)) hx hb dX0_init_37 (by decide) ?_
  refine m_nA (t := 0) hx hb hk hH hE.le hz (by decide) rfl (by decide) wd_96 hF dX0_init_39 (fun a5 ws H hH hF => ?_)
  refine m_pVF hx hb hown hk hH hnm hF fk_RX0_ints wd_72 rfl pd_0 (m_nra _ _) (m_fra _ _) dX0_init_41 (fun ws H locs hH hF => ?_)
  refine lv_aload_n hx hb dX0_init_44 rfl (lv_at hl 0 rfl) ?_
  refine lv_bipush (v := (64)) hx hb dX0_init_45 (by decide) ?_
  refine m_nA (t := 4) hx hb hk hH hE.le hz (by decide) rfl (by decide) wd_100 hF dX0_init_47 (fun a6 ws H hH hF => ?_)
  refine m_pVF hx hb hown hk hH hnm hF fk_RX0_longs wd_73 rfl pd_4 (m_nra _ _) (m_fra _ _) dX0_init_49 (fun ws H locs hH hF => ?_)
  refine lv_aload_n hx hb dX0_init_52 rfl (lv_at hl 0 rfl) ?_
  refine lv_bipush (v := (64)) hx hb dX0_init_53 (by decide) ?_
  refine m_nA (t := 5) hx hb hk hH hE.le hz (by decide) rfl (by decide) wd_101 hF dX0_init_55 (fun a7 ws H hH hF => ?_)
  refine m_pVF hx hb hown hk hH hnm hF fk_RX0_floats wd_74 rfl pd_5 (m_nra _ _) (m_fra _ _) dX0_init_57 (fun ws H locs hH hF => ?_)
  refine lv_aload_n hx hb dX0_init_60 rfl (lv_at hl 0 rfl) ?_
  refine lv_bipush (v := (64)) hx hb dX0_init_61 (by decide) ?_
  refine m_nA (t := 6) hx hb hk hH hE.le hz (by decide) rfl (by decide) wd_102 hF dX0_init_63 (fun a8 ws H hH hF => ?_)
  refine m_pVF hx hb hown hk hH hnm hF fk_RX0_doubles wd_75 rfl pd_6 (m_nra _ _) (m_fra _ _) dX0_init_65 (fun ws H locs hH hF => ?_)
  refine lv_aload_n hx hb dX0_init_68 rfl (lv_at hl 0 rfl) ?_
  refine lv_bipush (v := (64)) hx hb dX0_init_69 (by decide) ?_
  refine m_nA (t := 7) hx hb hk hH hE.le hz (by decide) rfl (by decide) wd_103 hF dX0_init_71 (fun a9 ws H hH hF => ?_)
  refine m_pVF hx hb hown hk hH hnm hF fk_RX0_booleans wd_76 rfl pd_7 (m_nra _ _) (m_fra _ _) dX0_init_73 (fun ws H locs hH hF => ?_)
  refine lv_iconst (v := (0)) hx hb dX0_init_76 (by decide) ?_
  refine lv_istore_n (lv' := [(1, .int (0 : Int32)), (0, .ref o)]) hx hb dX0_init_77 rfl hl (by decide) (by first | rfl | simp [m_cat, m_ci, m_cl, m_cf, m_cd, m_cr]) (fun ls hl => ?_)
  refine w_X0_init_78 cx hE o _ (fun ws H locs cells slots ls hl hH hF => ?_) _ _ _ _ _ _ _ _ (lv_sub hl [1, 0] rfl) hH hF
  exact m_vret hx hb hr hlocks hH hE hF dX0_init_97

def F_X0_isOpen (o : Nat) (x1 : Int32) : St (Int32) :=
  bd (gR [0] 0 (some o)) fun v1 => bd (aI 0 v1 x1) fun v2 => br (v2 < 0) (rt (0 : Int32)) (rt (1 : Int32))
set_option maxHeartbeats 4000000 in
set_option maxRecDepth 100000 in
theorem t_X0_isOpen (l : Launch) (D : va_G) (cy : Nat → ClassId) (z : Nat) (o : Nat) (x1 : Int32) : MT l D cy z yX0_isOpen cX0_isOpen 2 (some .boolean) 0 0 (F_X0_isOpen o x1) vI [.ref o, .int x1] := by
  refine m_enter [(0, .ref o), (1, .int x1)] (by decide) (by first | rfl | simp [lv_args, m_cat, m_ci, m_cl, m_cf, m_cd, m_cr]) (by first | exact Nat.le_of_ble_eq_true rfl | simp [lg_sl, m_cat, m_ci, m_cl, m_cf, m_cd, m_cr]) ?_
  intro p e R s m args below meth c ws0 wsf rr cx hE ws H locs cells slots ls hl hH hF
  obtain ⟨hx, hb, hr, hml, hown, hk, hz, hlocks, hnm, hfr, hlo⟩ := id cx
  unfold F_X0_isOpen at hF
  refine lv_aload_n hx hb dX0_isOpen_0 rfl (lv_at hl 0 rfl) ?_
  refine m_gR hx hb hown hk hH hF fk_RX0_sizes lk_RX0_9 dX0_isOpen_1 (fun v1 hF => ?_)
  refine lv_iload_n hx hb dX0_isOpen_4 rfl (lv_at hl 1 rfl) ?_
  refine m_aI0 hx hb hk hH hF dX0_isOpen_5 (fun v2 hF => ?_)
  refine lv_if_lt (tgt := 13) hx hb dX0_isOpen_6 (by decide) (fun hc2 => ?_) (fun hc2 => ?_)
  · have hF := bq_t hc2 hF
    refine lv_iconst (v := (0)) hx hb dX0_isOpen_13 (by decide) ?_
    exact m_iret hx hb hr hlocks hH hE hF rfl dX0_isOpen_14
  · have hF := bq_f hc2 hF
    refine lv_iconst (v := (1)) hx hb dX0_isOpen_9 (by decide) ?_
    refine lv_goto (tgt := 14) hx hb dX0_isOpen_10 (by decide) ?_
    exact m_iret hx hb hr hlocks hH hE hF rfl dX0_isOpen_14

def F_X0_has (o : Nat) (x1 : Int32) (x2 : Int32) : St (Int32) :=
  br (x2 < 0) (rt (0 : Int32)) (bd (gR [0] 0 (some o)) fun v2 => bd (aI 0 v2 x1) fun v3 => br (v3 ≤ x2) (rt (0 : Int32)) (rt (1 : Int32)))
set_option maxHeartbeats 4000000 in
set_option maxRecDepth 100000 in
theorem t_X0_has (l : Launch) (D : va_G) (cy : Nat → ClassId) (z : Nat) (o : Nat) (x1 : Int32) (x2 : Int32) : MT l D cy z yX0_has cX0_has 3 (some .boolean) 0 0 (F_X0_has o x1 x2) vI [.ref o, .int x1, .int x2] := by
  refine m_enter [(0, .ref o), (1, .int x1), (2, .int x2)] (by decide) (by first | rfl | simp [lv_args, m_cat, m_ci, m_cl, m_cf, m_cd, m_cr]) (by first | exact Nat.le_of_ble_eq_true rfl | simp [lg_sl, m_cat, m_ci, m_cl, m_cf, m_cd, m_cr]) ?_
  intro p e R s m args below meth c ws0 wsf rr cx hE ws H locs cells slots ls hl hH hF
  obtain ⟨hx, hb, hr, hml, hown, hk, hz, hlocks, hnm, hfr, hlo⟩ := id cx
  unfold F_X0_has at hF
  refine lv_iload_n hx hb dX0_has_0 rfl (lv_at hl 2 rfl) ?_
  refine lv_if_lt (tgt := 18) hx hb dX0_has_1 (by decide) (fun hc0 => ?_) (fun hc0 => ?_)
  · have hF := bq_t hc0 hF
    refine lv_iconst (v := (0)) hx hb dX0_has_18 (by decide) ?_
    exact m_iret hx hb hr hlocks hH hE hF rfl dX0_has_19
  · have hF := bq_f hc0 hF
    refine lv_iload_n hx hb dX0_has_4 rfl (lv_at hl 2 rfl) ?_
    refine lv_aload_n hx hb dX0_has_5 rfl (lv_at hl 0 rfl) ?_
    refine m_gR hx hb hown hk hH hF fk_RX0_sizes lk_RX0_9 dX0_has_6 (fun v2 hF => ?_)
    refine lv_iload_n hx hb dX0_has_9 rfl (lv_at hl 1 rfl) ?_
    refine m_aI0 hx hb hk hH hF dX0_has_10 (fun v3 hF => ?_)
    refine lv_icmp_ge (tgt := 18) hx hb dX0_has_11 (by decide) (fun hc3 => ?_) (fun hc3 => ?_)
    · have hF := bq_t hc3 hF
      refine lv_iconst (v := (0)) hx hb dX0_has_18 (by decide) ?_
      exact m_iret hx hb hr hlocks hH hE hF rfl dX0_has_19
    · have hF := bq_f hc3 hF
      refine lv_iconst (v := (1)) hx hb dX0_has_14 (by decide) ?_
      refine lv_goto (tgt := 19) hx hb dX0_has_15 (by decide) ?_
      exact m_iret hx hb hr hlocks hH hE hF rfl dX0_has_19

def F_X0_put (o : Nat) (x1 : Int32) (x2 : Int32) (x3 : Int64) : St (Unit) :=
  bd (rt x1) fun w1 => br (w1 = (0)) (bd (gR [0] 1 (some o)) fun v2 => bd (sI 1 v2 x2 (vp_nar .byte x3.toInt32.toInt8.toInt32)) fun _ => rt ()) (br (w1 = (1)) (bd (gR [0] 2 (some o)) fun v3 => bd (sI 2 v3 x2 (vp_nar .char ((x3.toInt32.toUInt32 % 65536).toInt32))) fun _ => rt ()) (br (w1 = (2)) (bd (gR [0] 3 (some o)) fun v4 => bd (sI 3 v4 x2 (vp_nar .short x3.toInt32.toInt16.toInt32)) fun _ => rt ()) (br (w1 = (3)) (bd (gR [0] 4 (some o)) fun v5 => bd (sI 0 v5 x2 x3.toInt32) fun _ => rt ()) (br (w1 = (4)) (bd (gR [0] 5 (some o)) fun v6 => bd (sL v6 x2 x3) fun _ => rt ()) (br (w1 = (5)) (bd (gR [0] 6 (some o)) fun v7 => bd (ck ((FP.fmul (FP.l2f x3) (1040187392 : UInt32)) &&& 0x7fffffff ≤ 0x7f800000)) fun _ => bd (rt (FP.fmul (FP.l2f x3) (1040187392 : UInt32))) fun r8 => bd (sF v7 x2 r8) fun _ => rt ()) (br (w1 = (6)) (bd (gR [0] 7 (some o)) fun v9 => bd (ck ((FP.dmul (FP.l2d x3) (4593671619917905920 : UInt64)) &&& 0x7fffffffffffffff ≤ 0x7ff0000000000000)) fun _ => bd (rt (FP.dmul (FP.l2d x3) (4593671619917905920 : UInt64))) fun r10 => bd (sD v9 x2 r10) fun _ => rt ()) (bd (gR [0] 8 (some o)) fun v11 => br ((lg_cmp (x3 &&& (1 : Int64)) (0 : Int64)) = 0) (bd (sI 7 v11 x2 (vp_nar .boolean (0 : Int32))) fun _ => rt ()) (bd (sI 7 v11 x2 (vp_nar .boolean (1 : Int32))) fun _ => rt ()))))))))
set_option maxHeartbeats 4000000 in
set_option maxRecDepth 100000 in
theorem t_X0_put (l : Launch) (D : va_G) (cy : Nat → ClassId) (z : Nat) (o : Nat) (x1 : Int32) (x2 : Int32) (x3 : Int64) : MT l D cy z yX0_put cX0_put 5 none 0 0 (F_X0_put o x1 x2 x3) vU [.ref o, .int x1, .int x2, .long x3] := by
  refine m_enter [(0, .ref o), (1, .int x1), (2, .int x2), (3, .long x3)] (by decide) (by first | rfl | simp [lv_args, m_cat, m_ci, m_cl, m_cf, m_cd, m_cr]) (by first | exact Nat.le_of_ble_eq_true rfl | simp [lg_sl, m_cat, m_ci, m_cl, m_cf, m_cd, m_cr]) ?_
  intro p e R s m args below meth c ws0 wsf rr cx hE ws H locs cells slots ls hl hH hF
  obtain ⟨hx, hb, hr, hml, hown, hk, hz, hlocks, hnm, hfr, hlo⟩ := id cx
  unfold F_X0_put at hF
  refine lv_iload_n hx hb dX0_put_0 rfl (lv_at hl 1 rfl) ?_
  refine lv_topi (fun w1 hw1 => ?_)
  have hF := rt_t hw1 hF
  by_cases hkw1_0 : w1 = (0)
  · have hF := bq_t hkw1_0 hF
    refine lv_tableIn (off := 43) (tgt := 44) hx hb dX0_put_1 (by rw [hkw1_0]; decide) (by rw [hkw1_0]; decide) (by rw [hkw1_0]; decide) (by decide) ?_
    refine lv_aload_n hx hb dX0_put_44 rfl (lv_at hl 0 rfl) ?_
    refine m_gR hx hb hown hk hH hF fk_RX0_bytes lk_RX0_15 dX0_put_45 (fun v2 hF => ?_)
    refine lv_iload_n hx hb dX0_put_48 rfl (lv_at hl 2 rfl) ?_
    refine lv_lload_n hx hb dX0_put_49 rfl (lv_at hl 3 rfl) ?_
    refine lv_l2i hx hb dX0_put_50 rfl ?_
    refine lv_i2b hx hb dX0_put_51 rfl ?_
    refine m_sI1 hx hb hk hH hF dX0_put_52 (fun ws H locs hH hF => ?_)
    refine lv_goto (tgt := 149) hx hb dX0_put_53 (by decide) ?_
    exact m_vret hx hb hr hlocks hH hE hF dX0_put_149
  · have hF := bq_f hkw1_0 hF
    by_cases hkw1_1 : w1 = (1)
    · have hF := bq_t hkw1_1 hF
      refine lv_tableIn (off := 55) (tgt := 56) hx hb dX0_put_1 (by rw [hkw1_1]; decide) (by rw [hkw1_1]; decide) (by rw [hkw1_1]; decide) (by decide) ?_
      refine lv_aload_n hx hb dX0_put_56 rfl (lv_at hl 0 rfl) ?_
      refine m_gR hx hb hown hk hH hF fk_RX0_chars lk_RX0_19 dX0_put_57 (fun v3 hF => ?_)
      refine lv_iload_n hx hb dX0_put_60 rfl (lv_at hl 2 rfl) ?_
      refine lv_lload_n hx hb dX0_put_61 rfl (lv_at hl 3 rfl) ?_
      refine lv_l2i hx hb dX0_put_62 rfl ?_
      refine lv_i2c hx hb dX0_put_63 rfl ?_
      refine m_sI2 hx hb hk hH hF dX0_put_64 (fun ws H locs hH hF => ?_)
      refine lv_goto (tgt := 149) hx hb dX0_put_65 (by decide) ?_
      exact m_vret hx hb hr hlocks hH hE hF dX0_put_149
    · have hF := bq_f hkw1_1 hF
      by_cases hkw1_2 : w1 = (2)
      · have hF := bq_t hkw1_2 hF
        refine lv_tableIn (off := 67) (tgt := 68) hx hb dX0_put_1 (by rw [hkw1_2]; decide) (by rw [hkw1_2]; decide) (by rw [hkw1_2]; decide) (by decide) ?_
        refine lv_aload_n hx hb dX0_put_68 rfl (lv_at hl 0 rfl) ?_
        refine m_gR hx hb hown hk hH hF fk_RX0_shorts lk_RX0_23 dX0_put_69 (fun v4 hF => ?_)
        refine lv_iload_n hx hb dX0_put_72 rfl (lv_at hl 2 rfl) ?_
        refine lv_lload_n hx hb dX0_put_73 rfl (lv_at hl 3 rfl) ?_
        refine lv_l2i hx hb dX0_put_74 rfl ?_
        refine lv_i2s hx hb dX0_put_75 rfl ?_
        refine m_sI3 hx hb hk hH hF dX0_put_76 (fun ws H locs hH hF => ?_)
        refine lv_goto (tgt := 149) hx hb dX0_put_77 (by decide) ?_
        exact m_vret hx hb hr hlocks hH hE hF dX0_put_149
      · have hF := bq_f hkw1_2 hF
        by_cases hkw1_3 : w1 = (3)
        · have hF := bq_t hkw1_3 hF
          refine lv_tableIn (off := 79) (tgt := 80) hx hb dX0_put_1 (by rw [hkw1_3]; decide) (by rw [hkw1_3]; decide) (by rw [hkw1_3]; decide) (by decide) ?_
          refine lv_aload_n hx hb dX0_put_80 rfl (lv_at hl 0 rfl) ?_
          refine m_gR hx hb hown hk hH hF fk_RX0_ints lk_RX0_27 dX0_put_81 (fun v5 hF => ?_)
          refine lv_iload_n hx hb dX0_put_84 rfl (lv_at hl 2 rfl) ?_
          refine lv_lload_n hx hb dX0_put_85 rfl (lv_at hl 3 rfl) ?_
          refine lv_l2i hx hb dX0_put_86 rfl ?_
          refine m_sI0 hx hb hk hH hF dX0_put_87 (fun ws H locs hH hF => ?_)
          refine lv_goto (tgt := 149) hx hb dX0_put_88 (by decide) ?_
          exact m_vret hx hb hr hlocks hH hE hF dX0_put_149
        · have hF := bq_f hkw1_3 hF
          by_cases hkw1_4 : w1 = (4)
          · have hF := bq_t hkw1_4 hF
            refine lv_tableIn (off := 90) (tgt := 91) hx hb dX0_put_1 (by rw [hkw1_4]; decide) (by rw [hkw1_4]; decide) (by rw [hkw1_4]; decide) (by decide) ?_
            refine lv_aload_n hx hb dX0_put_91 rfl (lv_at hl 0 rfl) ?_
            refine m_gR hx hb hown hk hH hF fk_RX0_longs lk_RX0_30 dX0_put_92 (fun v6 hF => ?_)
            refine lv_iload_n hx hb dX0_put_95 rfl (lv_at hl 2 rfl) ?_
            refine lv_lload_n hx hb dX0_put_96 rfl (lv_at hl 3 rfl) ?_
            refine m_sL hx hb hk hH hF dX0_put_97 (fun ws H locs hH hF => ?_)
            refine lv_goto (tgt := 149) hx hb dX0_put_98 (by decide) ?_
            exact m_vret hx hb hr hlocks hH hE hF dX0_put_149
          · have hF := bq_f hkw1_4 hF
            by_cases hkw1_5 : w1 = (5)
            · have hF := bq_t hkw1_5 hF
              refine lv_tableIn (off := 100) (tgt := 101) hx hb dX0_put_1 (by rw [hkw1_5]; decide) (by rw [hkw1_5]; decide) (by rw [hkw1_5]; decide) (by decide) ?_
              refine lv_aload_n hx hb dX0_put_101 rfl (lv_at hl 0 rfl) ?_
              refine m_gR hx hb hown hk hH hF fk_RX0_floats lk_RX0_34 dX0_put_102 (fun v7 hF => ?_)
              refine lv_iload_n hx hb dX0_put_105 rfl (lv_at hl 2 rfl) ?_
              refine lv_lload_n hx hb dX0_put_106 rfl (lv_at hl 3 rfl) ?_
              refine lv_l2f hx hb dX0_put_107 ?_
              refine lv_ldcf hx hb hown (hk.wd wd_709 args) dX0_put_108 ?_
              obtain ⟨hqr8, hF⟩ := ck_t hF
              refine lv_fmul hx hb dX0_put_110 hqr8 ?_
              refine lv_topf (fun r8 hr8 => ?_)
              have hF := rt_t hr8 hF
              refine m_sF hx hb hk hH hF dX0_put_111 (fun ws H locs hH hF => ?_)
              refine lv_goto (tgt := 149) hx hb dX0_put_112 (by decide) ?_
              exact m_vret hx hb hr hlocks hH hE hF dX0_put_149
            · have hF := bq_f hkw1_5 hF
              by_cases hkw1_6 : w1 = (6)
              · have hF := bq_t hkw1_6 hF
                refine lv_tableIn (off := 114) (tgt := 115) hx hb dX0_put_1 (by rw [hkw1_6]; decide) (by rw [hkw1_6]; decide) (by rw [hkw1_6]; decide) (by decide) ?_
                refine lv_aload_n hx hb dX0_put_115 rfl (lv_at hl 0 rfl) ?_
                refine m_gR hx hb hown hk hH hF fk_RX0_doubles lk_RX0_38 dX0_put_116 (fun v9 hF => ?_)
                refine lv_iload_n hx hb dX0_put_119 rfl (lv_at hl 2 rfl) ?_
                refine lv_lload_n hx hb dX0_put_120 rfl (lv_at hl 3 rfl) ?_
                refine lv_l2d hx hb dX0_put_121 ?_
                refine lv_ldc2d hx hb hown (hk.wd wd_710 args) dX0_put_122 ?_
                obtain ⟨hqr10, hF⟩ := ck_t hF
                refine lv_dmul hx hb dX0_put_125 hqr10 ?_
                refine lv_topd (fun r10 hr10 => ?_)
                have hF := rt_t hr10 hF
                refine m_sD hx hb hk hH hF dX0_put_126 (fun ws H locs hH hF => ?_)
                refine lv_goto (tgt := 149) hx hb dX0_put_127 (by decide) ?_
                exact m_vret hx hb hr hlocks hH hE hF dX0_put_149
              · have hF := bq_f hkw1_6 hF
                refine lv_tableOut (tgt := 130) hx hb dX0_put_1 (by have g0 := lv_neT hkw1_0 (a := 0) (by decide); have g1 := lv_neT hkw1_1 (a := 1) (by decide); have g2 := lv_neT hkw1_2 (a := 2) (by decide); have g3 := lv_neT hkw1_3 (a := 3) (by decide); have g4 := lv_neT hkw1_4 (a := 4) (by decide); have g5 := lv_neT hkw1_5 (a := 5) (by decide); have g6 := lv_neT hkw1_6 (a := 6) (by decide); omega) (by decide) ?_
                refine lv_aload_n hx hb dX0_put_130 rfl (lv_at hl 0 rfl) ?_
                refine m_gR hx hb hown hk hH hF fk_RX0_booleans lk_RX0_42 dX0_put_131 (fun v11 hF => ?_)
                refine lv_iload_n hx hb dX0_put_134 rfl (lv_at hl 2 rfl) ?_
                refine lv_lload_n hx hb dX0_put_135 rfl (lv_at hl 3 rfl) ?_
                refine lv_lconst (v := (1)) hx hb dX0_put_136 (by decide) ?_
                refine lv_land hx hb dX0_put_137 ?_
                refine lv_lconst (v := (0)) hx hb dX0_put_138 (by decide) ?_
                refine W.lcmp hx hb dX0_put_139 ?_
                refine lv_if_eq (tgt := 147) hx hb dX0_put_140 (by decide) (fun hc11 => ?_) (fun hc11 => ?_)
                · have hF := bq_t hc11 hF
                  refine lv_iconst (v := (0)) hx hb dX0_put_147 (by decide) ?_
                  refine m_sI7 hx hb hk hH hF dX0_put_148 (fun ws H locs hH hF => ?_)
                  exact m_vret hx hb hr hlocks hH hE hF dX0_put_149
                · have hF := bq_f hc11 hF
                  refine lv_iconst (v := (1)) hx hb dX0_put_143 (by decide) ?_
                  refine lv_goto (tgt := 148) hx hb dX0_put_144 (by decide) ?_
                  refine m_sI7 hx hb hk hH hF dX0_put_148 (fun ws H locs hH hF => ?_)
                  exact m_vret hx hb hr hlocks hH hE hF dX0_put_149

def b_X0_open_9 (x0 : Nat) (x1 : Int32) (x2 : Int32) (rec : Int32 → St (Unit)) (k : St (Unit)) (x3 : Int32) : St (Unit) :=
  br (x2 ≤ x3) (k) (bd (dr [0] (some x0)) fun q4 => bd (F_X0_put q4.1 x1 x3 (0 : Int64)) fun c3 => rec (x3 + (1 : Int32)))
def l_X0_open_9 (x0 : Nat) (x1 : Int32) (x2 : Int32) (k : St (Unit)) : Nat → Int32 → St (Unit)
  | 0 => fun _ => fl
  | n + 1 => fun x3 => b_X0_open_9 x0 x1 x2 (l_X0_open_9 x0 x1 x2 k n) k x3
def F_X0_open (o : Nat) (x1 : Int32) (x2 : Int32) : St (Unit) :=
  bd (gR [0] 0 (some o)) fun v1 => bd (sI 0 v1 x1 x2) fun _ => l_X0_open_9 o x1 x2 (rt ()) FU (0 : Int32)
set_option maxHeartbeats 4000000 in
set_option maxRecDepth 100000 in
theorem wb_X0_open_9 {l : Launch} {D : va_G} {cy : Nat → ClassId} {z : Nat} {p : Program} {e : Env} {R : Room} {s : State} {m : MethodId} {args : Array Value} {below : List Frame} {meth : Method} {c : Code} {ws0 wsf : WS} {rr : Unit} (cx : Cx D cy z RX0 cX0_open 4 none 1 40 "open" p R s m meth c) (hE : AC ws0 wsf R.cells R.slots) (x0 : Nat) (x1 : Int32) (x2 : Int32) (rec : Int32 → St (Unit)) (k : St (Unit)) (hrec : ∀ (x3 : Int32), At_ l D cy z p e R s m args below meth c ws0 wsf vU rr 4 9 [(0, .ref x0), (1, .int x1), (2, .int x2), (3, .int x3)] [] (rec x3)) (hkk : At_ l D cy z p e R s m args below meth c ws0 wsf vU rr 4 27 [] [] (k)) (x3 : Int32) : At_ l D cy z p e R s m args below meth c ws0 wsf vU rr 4 9 [(0, .ref x0), (1, .int x1), (2, .int x2), (3, .int x3)] [] (b_X0_open_9 x0 x1 x2 rec k x3) := by
  intro ws H locs cells slots ls hl hH hF
  obtain ⟨hx, hb, hr, hml, hown, hk, hz, hlocks, hnm, hfr, hlo⟩ := id cx
  unfold b_X0_open_9 at hF
  refine lv_iload_n hx hb dX0_open_9 rfl (lv_at hl 3 rfl) ?_
  refine lv_iload_n hx hb dX0_open_10 rfl (lv_at hl 2 rfl) ?_
  refine lv_icmp_ge (tgt := 27) hx hb dX0_open_11 (by decide) (fun hc1 => ?_) (fun hc1 => ?_)
  · have hF := bq_t hc1 hF
    exact hkk _ _ _ _ _ _ (lv_sub hl [] rfl) hH hF
  · have hF := bq_f hc1 hF
    refine lv_aload_n hx hb dX0_open_14 rfl (lv_at hl 0 rfl) ?_
    refine lv_iload_n hx hb dX0_open_15 rfl (lv_at hl 1 rfl) ?_
    refine lv_iload_n hx hb dX0_open_16 rfl (lv_at hl 3 rfl) ?_
    refine lv_lconst (v := (0)) hx hb dX0_open_17 (by decide) ?_
    refine m_cVU hx hb hml hown hk hH hE.le hz (F := fun q4 => F_X0_put q4.1 x1 x3 (0 : Int64)) (C := RX0) (T := TX0) (N := 9) rfl (As := [.int x1, .int x3, .long (0 : Int64)]) (rest := []) (fun o => t_X0_put l D cy z o x1 x3 (0 : Int64)) hF wd_705 wd_706 wd_34 wd_708 wd_707 yn_X0_put ⟨Nat.le_trans (by decide) hfr, Nat.le_trans (by decide) hlo⟩ hl.1 (by first | exact Nat.le_of_ble_eq_true rfl | simp [m_cat, m_ci, m_cl, m_cf, m_cd, m_cr]) rfl dX0_open_18 (fun c3 ws H locs cells slots hH hF => ?_)
    refine lv_iinc (v := (x3 + (1 : Int32))) (lv' := [(3, .int (x3 + (1 : Int32))), (0, .ref x0), (1, .int x1), (2, .int x2)]) hx hb dX0_open_21 hl (k := 3) rfl (by first | rfl | (congr 1)) (by decide) (by first | rfl | simp [m_cat, m_ci, m_cl, m_cf, m_cd, m_cr]) (fun ls hl => ?_)
    refine lv_goto (tgt := 9) hx hb dX0_open_24 (by decide) ?_
    exact hrec _ _ _ _ _ _ _ (lv_sub hl [1, 2, 3, 0] rfl) hH hF
theorem w_X0_open_9 {l : Launch} {D : va_G} {cy : Nat → ClassId} {z : Nat} {p : Program} {e : Env} {R : Room} {s : State} {m : MethodId} {args : Array Value} {below : List Frame} {meth : Method} {c : Code} {ws0 wsf : WS} {rr : Unit} (cx : Cx D cy z RX0 cX0_open 4 none 1 40 "open" p R s m meth c) (hE : AC ws0 wsf R.cells R.slots) (x0 : Nat) (x1 : Int32) (x2 : Int32) (k : St (Unit)) (hkk : At_ l D cy z p e R s m args below meth c ws0 wsf vU rr 4 27 [] [] (k)) : ∀ (n : Nat) (x3 : Int32), At_ l D cy z p e R s m args below meth c ws0 wsf vU rr 4 9 [(0, .ref x0), (1, .int x1), (2, .int x2), (3, .int x3)] [] (l_X0_open_9 x0 x1 x2 k n x3) := by
  intro n
  induction n with
  | zero =>
    intro x3 ws H locs cells slots ls hl hH hF
    exact fl_t hF
  | succ n ih =>
    intro x3
    exact wb_X0_open_9 cx hE x0 x1 x2 (l_X0_open_9 x0 x1 x2 k n) k ih hkk x3
set_option maxHeartbeats 4000000 in
set_option maxRecDepth 100000 in
theorem t_X0_open (l : Launch) (D : va_G) (cy : Nat → ClassId) (z : Nat) (o : Nat) (x1 : Int32) (x2 : Int32) : MT l D cy z yX0_open cX0_open 4 none 1 40 (F_X0_open o x1 x2) vU [.ref o, .int x1, .int x2] := by
  refine m_enter [(0, .ref o), (1, .int x1), (2, .int x2)] (by decide) (by first | rfl | simp [lv_args, m_cat, m_ci, m_cl, m_cf, m_cd, m_cr]) (by first | exact Nat.le_of_ble_eq_true rfl | simp [lg_sl, m_cat, m_ci, m_cl, m_cf, m_cd, m_cr]) ?_
  intro p e R s m args below meth c ws0 wsf rr cx hE ws H locs cells slots ls hl hH hF
  obtain ⟨hx, hb, hr, hml, hown, hk, hz, hlocks, hnm, hfr, hlo⟩ := id cx
  unfold F_X0_open at hF
  refine lv_aload_n hx hb dX0_open_0 rfl (lv_at hl 0 rfl) ?_
  refine m_gR hx hb hown hk hH hF fk_RX0_sizes lk_RX0_9 dX0_open_1 (fun v1 hF => ?_)
  refine lv_iload_n hx hb dX0_open_4 rfl (lv_at hl 1 rfl) ?_
  refine lv_iload_n hx hb dX0_open_5 rfl (lv_at hl 2 rfl) ?_
  refine m_sI0 hx hb hk hH hF dX0_open_6 (fun ws H locs hH hF => ?_)
  refine lv_iconst (v := (0)) hx hb dX0_open_7 (by decide) ?_
  refine lv_istore_n (lv' := [(3, .int (0 : Int32)), (0, .ref o), (1, .int x1), (2, .int x2)]) hx hb dX0_open_8 rfl hl (by decide) (by first | rfl | simp [m_cat, m_ci, m_cl, m_cf, m_cd, m_cr]) (fun ls hl => ?_)
  refine w_X0_open_9 cx hE o x1 x2 _ (fun ws H locs cells slots ls hl hH hF => ?_) _ _ _ _ _ _ _ _ (lv_sub hl [1, 2, 3, 0] rfl) hH hF
  exact m_vret hx hb hr hlocks hH hE hF dX0_open_27

def F_X0_close (o : Nat) (x1 : Int32) : St (Int32) :=
  bd (dr [0] (some o)) fun q2 => bd (F_X0_isOpen q2.1 x1) fun c1 => bd (gR [0] 0 (some o)) fun v3 => bd (sI 0 v3 x1 (-1 : Int32)) fun _ => bd (ck (c1 = 0 ∨ c1 = 1)) fun _ => rt c1
set_option maxHeartbeats 4000000 in
set_option maxRecDepth 100000 in
theorem t_X0_close (l : Launch) (D : va_G) (cy : Nat → ClassId) (z : Nat) (o : Nat) (x1 : Int32) : MT l D cy z yX0_close cX0_close 3 (some .boolean) 1 40 (F_X0_close o x1) vI [.ref o, .int x1] := by
  refine m_enter [(0, .ref o), (1, .int x1)] (by decide) (by first | rfl | simp [lv_args, m_cat, m_ci, m_cl, m_cf, m_cd, m_cr]) (by first | exact Nat.le_of_ble_eq_true rfl | simp [lg_sl, m_cat, m_ci, m_cl, m_cf, m_cd, m_cr]) ?_
  intro p e R s m args below meth c ws0 wsf rr cx hE ws H locs cells slots ls hl hH hF
  obtain ⟨hx, hb, hr, hml, hown, hk, hz, hlocks, hnm, hfr, hlo⟩ := id cx
  unfold F_X0_close at hF
  refine lv_aload_n hx hb dX0_close_0 rfl (lv_at hl 0 rfl) ?_
  refine lv_iload_n hx hb dX0_close_1 rfl (lv_at hl 1 rfl) ?_
  refine m_cVI hx hb hml hown hk hH hE.le hz (F := fun q2 => F_X0_isOpen q2.1 x1) (C := RX0) (T := TX0) (N := 9) rfl (As := [.int x1]) (rest := []) (fun o => t_X0_isOpen l D cy z o x1) hF wd_719 wd_720 wd_34 wd_722 wd_721 yn_X0_isOpen ⟨Nat.le_trans (by decide) hfr, Nat.le_trans (by decide) hlo⟩ hl.1 (by first | exact Nat.le_of_ble_eq_true rfl | simp [m_cat, m_ci, m_cl, m_cf, m_cd, m_cr]) rfl dX0_close_2 (fun c1 ws H locs cells slots hH hF => ?_)
  refine lv_istore_n (lv' := [(2, .int c1), (0, .ref o), (1, .int x1)]) hx hb dX0_close_5 rfl hl (by decide) (by first | rfl | simp [m_cat, m_ci, m_cl, m_cf, m_cd, m_cr]) (fun ls hl => ?_)
  refine lv_aload_n hx hb dX0_close_6 rfl (lv_at hl 1 rfl) ?_
  refine m_gR hx hb hown hk hH hF fk_RX0_sizes lk_RX0_9 dX0_close_7 (fun v3 hF => ?_)
  refine lv_iload_n hx hb dX0_close_10 rfl (lv_at hl 2 rfl) ?_
  refine lv_iconst (v := (-1)) hx hb dX0_close_11 (by decide) ?_
  refine m_sI0 hx hb hk hH hF dX0_close_12 (fun ws H locs hH hF => ?_)
  refine lv_iload_n hx hb dX0_close_13 rfl (lv_at hl 0 rfl) ?_
  obtain ⟨hz3, hF⟩ := ck_t hF
  exact m_iret hx hb hr hlocks hH hE hF (m_nb hz3) dX0_close_14

def j_X0_opened_21 (rec : Int32 → Int32 → St (Int32)) (k : Int32 → St (Int32)) (x0 : Nat) (x1 : Int32) (x2 : Int32) : St (Int32) :=
  rec x1 (x2 + (1 : Int32))
def b_X0_opened_4 (x0 : Nat) (rec : Int32 → Int32 → St (Int32)) (k : Int32 → St (Int32)) (x1 : Int32) (x2 : Int32) : St (Int32) :=
  br ((8 : Int32) ≤ x2) (k x1) (bd (dr [0] (some x0)) fun q3 => bd (F_X0_isOpen q3.1 x2) fun c2 => br (c2 = 0) (j_X0_opened_21 rec k x0 x1 x2) (j_X0_opened_21 rec k x0 (x1 + (1 : Int32)) x2))
def l_X0_opened_4 (x0 : Nat) (k : Int32 → St (Int32)) : Nat → Int32 → Int32 → St (Int32)
  | 0 => fun _ _ => fl
  | n + 1 => fun x1 x2 => b_X0_opened_4 x0 (l_X0_opened_4 x0 k n) k x1 x2
def F_X0_opened (o : Nat) : St (Int32) :=
  l_X0_opened_4 o (fun (e5 : Int32) => rt e5) FU (0 : Int32) (0 : Int32)
set_option maxHeartbeats 4000000 in
set_option maxRecDepth 100000 in
theorem w_X0_opened_21 {l : Launch} {D : va_G} {cy : Nat → ClassId} {z : Nat} {p : Program} {e : Env} {R : Room} {s : State} {m : MethodId} {args : Array Value} {below : List Frame} {meth : Method} {c : Code} {ws0 wsf : WS} {rr : Int32} (cx : Cx D cy z RX0 cX0_opened 3 (some .int) 1 40 "opened" p R s m meth c) (hE : AC ws0 wsf R.cells R.slots) (rec : Int32 → Int32 → St (Int32)) (k : Int32 → St (Int32)) (x0 : Nat) (hrec : ∀ (x1 : Int32) (x2 : Int32), At_ l D cy z p e R s m args below meth c ws0 wsf vI rr 3 4 [(0, .ref x0), (1, .int x1), (2, .int x2)] [] (rec x1 x2)) (hkk : ∀ (x1 : Int32), At_ l D cy z p e R s m args below meth c ws0 wsf vI rr 3 27 [(1, .int x1)] [] (k x1)) (x1 : Int32) (x2 : Int32) : At_ l D cy z p e R s m args below meth c ws0 wsf vI rr 3 21 [(0, .ref x0), (1, .int x1), (2, .int x2)] [] (j_X0_opened_21 rec k x0 x1 x2) := by
  intro ws H locs cells slots ls hl hH hF
  obtain ⟨hx, hb, hr, hml, hown, hk, hz, hlocks, hnm, hfr, hlo⟩ := id cx
  unfold j_X0_opened_21 at hF
  refine lv_iinc (v := (x2 + (1 : Int32))) (lv' := [(2, .int (x2 + (1 : Int32))), (0, .ref x0), (1, .int x1)]) hx hb dX0_opened_21 hl (k := 2) rfl (by first | rfl | (congr 1)) (by decide) (by first | rfl | simp [m_cat, m_ci, m_cl, m_cf, m_cd, m_cr]) (fun ls hl => ?_)
  refine lv_goto (tgt := 4) hx hb dX0_opened_24 (by decide) ?_
  exact hrec _ _ _ _ _ _ _ _ (lv_sub hl [1, 2, 0] rfl) hH hF
set_option maxHeartbeats 4000000 in
set_option maxRecDepth 100000 in
theorem wb_X0_opened_4 {l : Launch} {D : va_G} {cy : Nat → ClassId} {z : Nat} {p : Program} {e : Env} {R : Room} {s : State} {m : MethodId} {args : Array Value} {below : List Frame} {meth : Method} {c : Code} {ws0 wsf : WS} {rr : Int32} (cx : Cx D cy z RX0 cX0_opened 3 (some .int) 1 40 "opened" p R s m meth c) (hE : AC ws0 wsf R.cells R.slots) (x0 : Nat) (rec : Int32 → Int32 → St (Int32)) (k : Int32 → St (Int32)) (hrec : ∀ (x1 : Int32) (x2 : Int32), At_ l D cy z p e R s m args below meth c ws0 wsf vI rr 3 4 [(0, .ref x0), (1, .int x1), (2, .int x2)] [] (rec x1 x2)) (hkk : ∀ (x1 : Int32), At_ l D cy z p e R s m args below meth c ws0 wsf vI rr 3 27 [(1, .int x1)] [] (k x1)) (x1 : Int32) (x2 : Int32) : At_ l D cy z p e R s m args below meth c ws0 wsf vI rr 3 4 [(0, .ref x0), (1, .int x1), (2, .int x2)] [] (b_X0_opened_4 x0 rec k x1 x2) := by
  intro ws H locs cells slots ls hl hH hF
  obtain ⟨hx, hb, hr, hml, hown, hk, hz, hlocks, hnm, hfr, hlo⟩ := id cx
  unfold b_X0_opened_4 at hF
  refine lv_iload_n hx hb dX0_opened_4 rfl (lv_at hl 2 rfl) ?_
  refine lv_bipush (v := (8)) hx hb dX0_opened_5 (by decide) ?_
  refine lv_icmp_ge (tgt := 27) hx hb dX0_opened_7 (by decide) (fun hc0 => ?_) (fun hc0 => ?_)
  · have hF := bq_t hc0 hF
    exact hkk _ _ _ _ _ _ _ (lv_sub hl [1] rfl) hH hF
  · have hF := bq_f hc0 hF
    refine lv_aload_n hx hb dX0_opened_10 rfl (lv_at hl 0 rfl) ?_
    refine lv_iload_n hx hb dX0_opened_11 rfl (lv_at hl 2 rfl) ?_
    refine m_cVI hx hb hml hown hk hH hE.le hz (F := fun q3 => F_X0_isOpen q3.1 x2) (C := RX0) (T := TX0) (N := 9) rfl (As := [.int x2]) (rest := []) (fun o => t_X0_isOpen l D cy z o x2) hF wd_719 wd_720 wd_34 wd_722 wd_721 yn_X0_isOpen ⟨Nat.le_trans (by decide) hfr, Nat.le_trans (by decide) hlo⟩ hl.1 (by first | exact Nat.le_of_ble_eq_true rfl | simp [m_cat, m_ci, m_cl, m_cf, m_cd, m_cr]) rfl dX0_opened_12 (fun c2 ws H locs cells slots hH hF => ?_)
    refine lv_if_eq (tgt := 21) hx hb dX0_opened_15 (by decide) (fun hc3 => ?_) (fun hc3 => ?_)
    · have hF := bq_t hc3 hF
      exact w_X0_opened_21 cx hE _ _ x0 hrec hkk x1 x2 _ _ _ _ _ _ (lv_sub hl [0, 1, 2] rfl) hH hF
    · have hF := bq_f hc3 hF
      refine lv_iinc (v := (x1 + (1 : Int32))) (lv' := [(1, .int (x1 + (1 : Int32))), (0, .ref x0), (2, .int x2)]) hx hb dX0_opened_18 hl (k := 1) rfl (by first | rfl | (congr 1)) (by decide) (by first | rfl | simp [m_cat, m_ci, m_cl, m_cf, m_cd, m_cr]) (fun ls hl => ?_)
      exact w_X0_opened_21 cx hE _ _ x0 hrec hkk (x1 + (1 : Int32)) x2 _ _ _ _ _ _ (lv_sub hl [1, 0, 2] rfl) hH hF
theorem w_X0_opened_4 {l : Launch} {D : va_G} {cy : Nat → ClassId} {z : Nat} {p : Program} {e : Env} {R : Room} {s : State} {m : MethodId} {args : Array Value} {below : List Frame} {meth : Method} {c : Code} {ws0 wsf : WS} {rr : Int32} (cx : Cx D cy z RX0 cX0_opened 3 (some .int) 1 40 "opened" p R s m meth c) (hE : AC ws0 wsf R.cells R.slots) (x0 : Nat) (k : Int32 → St (Int32)) (hkk : ∀ (x1 : Int32), At_ l D cy z p e R s m args below meth c ws0 wsf vI rr 3 27 [(1, .int x1)] [] (k x1)) : ∀ (n : Nat) (x1 : Int32) (x2 : Int32), At_ l D cy z p e R s m args below meth c ws0 wsf vI rr 3 4 [(0, .ref x0), (1, .int x1), (2, .int x2)] [] (l_X0_opened_4 x0 k n x1 x2) := by
  intro n
  induction n with
  | zero =>
    intro x1 x2 ws H locs cells slots ls hl hH hF
    exact fl_t hF
  | succ n ih =>
    intro x1 x2
    exact wb_X0_opened_4 cx hE x0 (l_X0_opened_4 x0 k n) k ih hkk x1 x2
set_option maxHeartbeats 4000000 in
set_option maxRecDepth 100000 in
theorem t_X0_opened (l : Launch) (D : va_G) (cy : Nat → ClassId) (z : Nat) (o : Nat) : MT l D cy z yX0_opened cX0_opened 3 (some .int) 1 40 (F_X0_opened o) vI [.ref o] := by
  refine m_enter [(0, .ref o)] (by decide) (by first | rfl | simp [lv_args, m_cat, m_ci, m_cl, m_cf, m_cd, m_cr]) (by first | exact Nat.le_of_ble_eq_true rfl | simp [lg_sl, m_cat, m_ci, m_cl, m_cf, m_cd, m_cr]) ?_
  intro p e R s m args below meth c ws0 wsf rr cx hE ws H locs cells slots ls hl hH hF
  obtain ⟨hx, hb, hr, hml, hown, hk, hz, hlocks, hnm, hfr, hlo⟩ := id cx
  unfold F_X0_opened at hF
  refine lv_iconst (v := (0)) hx hb dX0_opened_0 (by decide) ?_
  refine lv_istore_n (lv' := [(1, .int (0 : Int32)), (0, .ref o)]) hx hb dX0_opened_1 rfl hl (by decide) (by first | rfl | simp [m_cat, m_ci, m_cl, m_cf, m_cd, m_cr]) (fun ls hl => ?_)
  refine lv_iconst (v := (0)) hx hb dX0_opened_2 (by decide) ?_
  refine lv_istore_n (lv' := [(2, .int (0 : Int32)), (1, .int (0 : Int32)), (0, .ref o)]) hx hb dX0_opened_3 rfl hl (by decide) (by first | rfl | simp [m_cat, m_ci, m_cl, m_cf, m_cd, m_cr]) (fun ls hl => ?_)
  refine w_X0_opened_4 cx hE o _ (fun e5 ws H locs cells slots ls hl hH hF => ?_) _ _ _ _ _ _ _ _ _ (lv_sub hl [2, 1, 0] rfl) hH hF
  refine lv_iload_n hx hb dX0_opened_27 rfl (lv_at hl 0 rfl) ?_
  exact m_iret hx hb hr hlocks hH hE hF rfl dX0_opened_28

def F_X0_get (o : Nat) (x1 : Int32) (x2 : Int32) : St (Int64) :=
  bd (rt x1) fun w1 => br (w1 = (0)) (bd (gR [0] 1 (some o)) fun v2 => bd (aI 1 v2 x2) fun v3 => rt v3.toInt64) (br (w1 = (1)) (bd (gR [0] 2 (some o)) fun v4 => bd (aI 2 v4 x2) fun v5 => rt v5.toInt64) (br (w1 = (2)) (bd (gR [0] 3 (some o)) fun v6 => bd (aI 3 v6 x2) fun v7 => rt v7.toInt64) (br (w1 = (3)) (bd (gR [0] 4 (some o)) fun v8 => bd (aI 0 v8 x2) fun v9 => rt v9.toInt64) (br (w1 = (4)) (bd (gR [0] 5 (some o)) fun v10 => bd (aL v10 x2) fun v11 => rt v11) (br (w1 = (5)) (bd (gR [0] 6 (some o)) fun v12 => bd (aF v12 x2) fun v13 => bd (ck ((FP.fmul v13 (1090519040 : UInt32)) &&& 0x7fffffff ≤ 0x7f800000)) fun _ => bd (rt (FP.fmul v13 (1090519040 : UInt32))) fun r14 => rt (FP.f2l r14)) (br (w1 = (6)) (bd (gR [0] 7 (some o)) fun v15 => bd (aD v15 x2) fun v16 => bd (ck ((FP.dmul v16 (4620693217682128896 : UInt64)) &&& 0x7fffffffffffffff ≤ 0x7ff0000000000000)) fun _ => bd (rt (FP.dmul v16 (4620693217682128896 : UInt64))) fun r17 => rt (FP.d2l r17)) (bd (gR [0] 8 (some o)) fun v18 => bd (aI 7 v18 x2) fun v19 => br (v19 = 0) (rt (0 : Int64)) (rt (1 : Int64)))))))))
set_option maxHeartbeats 4000000 in
set_option maxRecDepth 100000 in
theorem t_X0_get (l : Launch) (D : va_G) (cy : Nat → ClassId) (z : Nat) (o : Nat) (x1 : Int32) (x2 : Int32) : MT l D cy z yX0_get cX0_get 3 (some .long) 0 0 (F_X0_get o x1 x2) vL [.ref o, .int x1, .int x2] := by
  refine m_enter [(0, .ref o), (1, .int x1), (2, .int x2)] (by decide) (by first | rfl | simp [lv_args, m_cat, m_ci, m_cl, m_cf, m_cd, m_cr]) (by first | exact Nat.le_of_ble_eq_true rfl | simp [lg_sl, m_cat, m_ci, m_cl, m_cf, m_cd, m_cr]) ?_
  intro p e R s m args below meth c ws0 wsf rr cx hE ws H locs cells slots ls hl hH hF
  obtain ⟨hx, hb, hr, hml, hown, hk, hz, hlocks, hnm, hfr, hlo⟩ := id cx
  unfold F_X0_get at hF
  refine lv_iload_n hx hb dX0_get_0 rfl (lv_at hl 1 rfl) ?_
  refine lv_topi (fun w1 hw1 => ?_)
  have hF := rt_t hw1 hF
  by_cases hkw1_0 : w1 = (0)
  · have hF := bq_t hkw1_0 hF
    refine lv_tableIn (off := 43) (tgt := 44) hx hb dX0_get_1 (by rw [hkw1_0]; decide) (by rw [hkw1_0]; decide) (by rw [hkw1_0]; decide) (by decide) ?_
    refine lv_aload_n hx hb dX0_get_44 rfl (lv_at hl 0 rfl) ?_
    refine m_gR hx hb hown hk hH hF fk_RX0_bytes lk_RX0_15 dX0_get_45 (fun v2 hF => ?_)
    refine lv_iload_n hx hb dX0_get_48 rfl (lv_at hl 2 rfl) ?_
    refine m_aI1 hx hb hk hH hF dX0_get_49 (fun v3 hF => ?_)
    refine lv_i2l hx hb dX0_get_50 rfl ?_
    exact m_lret hx hb hr hlocks hH hE hF dX0_get_51
  · have hF := bq_f hkw1_0 hF
    by_cases hkw1_1 : w1 = (1)
    · have hF := bq_t hkw1_1 hF
      refine lv_tableIn (off := 51) (tgt := 52) hx hb dX0_get_1 (by rw [hkw1_1]; decide) (by rw [hkw1_1]; decide) (by rw [hkw1_1]; decide) (by decide) ?_
      refine lv_aload_n hx hb dX0_get_52 rfl (lv_at hl 0 rfl) ?_
      refine m_gR hx hb hown hk hH hF fk_RX0_chars lk_RX0_19 dX0_get_53 (fun v4 hF => ?_)
      refine lv_iload_n hx hb dX0_get_56 rfl (lv_at hl 2 rfl) ?_
      refine m_aI2 hx hb hk hH hF dX0_get_57 (fun v5 hF => ?_)
      refine lv_i2l hx hb dX0_get_58 rfl ?_
      exact m_lret hx hb hr hlocks hH hE hF dX0_get_59
    · have hF := bq_f hkw1_1 hF
      by_cases hkw1_2 : w1 = (2)
      · have hF := bq_t hkw1_2 hF
        refine lv_tableIn (off := 59) (tgt := 60) hx hb dX0_get_1 (by rw [hkw1_2]; decide) (by rw [hkw1_2]; decide) (by rw [hkw1_2]; decide) (by decide) ?_
        refine lv_aload_n hx hb dX0_get_60 rfl (lv_at hl 0 rfl) ?_
        refine m_gR hx hb hown hk hH hF fk_RX0_shorts lk_RX0_23 dX0_get_61 (fun v6 hF => ?_)
        refine lv_iload_n hx hb dX0_get_64 rfl (lv_at hl 2 rfl) ?_
        refine m_aI3 hx hb hk hH hF dX0_get_65 (fun v7 hF => ?_)
        refine lv_i2l hx hb dX0_get_66 rfl ?_
        exact m_lret hx hb hr hlocks hH hE hF dX0_get_67
      · have hF := bq_f hkw1_2 hF
        by_cases hkw1_3 : w1 = (3)
        · have hF := bq_t hkw1_3 hF
          refine lv_tableIn (off := 67) (tgt := 68) hx hb dX0_get_1 (by rw [hkw1_3]; decide) (by rw [hkw1_3]; decide) (by rw [hkw1_3]; decide) (by decide) ?_
          refine lv_aload_n hx hb dX0_get_68 rfl (lv_at hl 0 rfl) ?_
          refine m_gR hx hb hown hk hH hF fk_RX0_ints lk_RX0_27 dX0_get_69 (fun v8 hF => ?_)
          refine lv_iload_n hx hb dX0_get_72 rfl (lv_at hl 2 rfl) ?_
          refine m_aI0 hx hb hk hH hF dX0_get_73 (fun v9 hF => ?_)
          refine lv_i2l hx hb dX0_get_74 rfl ?_
          exact m_lret hx hb hr hlocks hH hE hF dX0_get_75
        · have hF := bq_f hkw1_3 hF
          by_cases hkw1_4 : w1 = (4)
          · have hF := bq_t hkw1_4 hF
            refine lv_tableIn (off := 75) (tgt := 76) hx hb dX0_get_1 (by rw [hkw1_4]; decide) (by rw [hkw1_4]; decide) (by rw [hkw1_4]; decide) (by decide) ?_
            refine lv_aload_n hx hb dX0_get_76 rfl (lv_at hl 0 rfl) ?_
            refine m_gR hx hb hown hk hH hF fk_RX0_longs lk_RX0_30 dX0_get_77 (fun v10 hF => ?_)
            refine lv_iload_n hx hb dX0_get_80 rfl (lv_at hl 2 rfl) ?_
            refine m_aL hx hb hk hH hF dX0_get_81 (fun v11 hF => ?_)
            exact m_lret hx hb hr hlocks hH hE hF dX0_get_82
          · have hF := bq_f hkw1_4 hF
            by_cases hkw1_5 : w1 = (5)
            · have hF := bq_t hkw1_5 hF
              refine lv_tableIn (off := 82) (tgt := 83) hx hb dX0_get_1 (by rw [hkw1_5]; decide) (by rw [hkw1_5]; decide) (by rw [hkw1_5]; decide) (by decide) ?_
              refine lv_aload_n hx hb dX0_get_83 rfl (lv_at hl 0 rfl) ?_
              refine m_gR hx hb hown hk hH hF fk_RX0_floats lk_RX0_34 dX0_get_84 (fun v12 hF => ?_)
              refine lv_iload_n hx hb dX0_get_87 rfl (lv_at hl 2 rfl) ?_
              refine m_aF hx hb hk hH hF dX0_get_88 (fun v13 hF => ?_)
              refine lv_ldcf hx hb hown (hk.wd wd_743 args) dX0_get_89 ?_
              obtain ⟨hqr14, hF⟩ := ck_t hF
              refine lv_fmul hx hb dX0_get_91 hqr14 ?_
              refine lv_topf (fun r14 hr14 => ?_)
              have hF := rt_t hr14 hF
              refine lv_f2l hx hb dX0_get_92 ?_
              exact m_lret hx hb hr hlocks hH hE hF dX0_get_93
            · have hF := bq_f hkw1_5 hF
              by_cases hkw1_6 : w1 = (6)
              · have hF := bq_t hkw1_6 hF
                refine lv_tableIn (off := 93) (tgt := 94) hx hb dX0_get_1 (by rw [hkw1_6]; decide) (by rw [hkw1_6]; decide) (by rw [hkw1_6]; decide) (by decide) ?_
                refine lv_aload_n hx hb dX0_get_94 rfl (lv_at hl 0 rfl) ?_
                refine m_gR hx hb hown hk hH hF fk_RX0_doubles lk_RX0_38 dX0_get_95 (fun v15 hF => ?_)
                refine lv_iload_n hx hb dX0_get_98 rfl (lv_at hl 2 rfl) ?_
                refine m_aD hx hb hk hH hF dX0_get_99 (fun v16 hF => ?_)
                refine lv_ldc2d hx hb hown (hk.wd wd_744 args) dX0_get_100 ?_
                obtain ⟨hqr17, hF⟩ := ck_t hF
                refine lv_dmul hx hb dX0_get_103 hqr17 ?_
                refine lv_topd (fun r17 hr17 => ?_)
                have hF := rt_t hr17 hF
                refine lv_d2l hx hb dX0_get_104 ?_
                exact m_lret hx hb hr hlocks hH hE hF dX0_get_105
              · have hF := bq_f hkw1_6 hF
                refine lv_tableOut (tgt := 106) hx hb dX0_get_1 (by have g0 := lv_neT hkw1_0 (a := 0) (by decide); have g1 := lv_neT hkw1_1 (a := 1) (by decide); have g2 := lv_neT hkw1_2 (a := 2) (by decide); have g3 := lv_neT hkw1_3 (a := 3) (by decide); have g4 := lv_neT hkw1_4 (a := 4) (by decide); have g5 := lv_neT hkw1_5 (a := 5) (by decide); have g6 := lv_neT hkw1_6 (a := 6) (by decide); omega) (by decide) ?_
                refine lv_aload_n hx hb dX0_get_106 rfl (lv_at hl 0 rfl) ?_
                refine m_gR hx hb hown hk hH hF fk_RX0_booleans lk_RX0_42 dX0_get_107 (fun v18 hF => ?_)
                refine lv_iload_n hx hb dX0_get_110 rfl (lv_at hl 2 rfl) ?_
                refine m_aI7 hx hb hk hH hF dX0_get_111 (fun v19 hF => ?_)
                refine lv_if_eq (tgt := 119) hx hb dX0_get_112 (by decide) (fun hc19 => ?_) (fun hc19 => ?_)
                · have hF := bq_t hc19 hF
                  refine lv_lconst (v := (0)) hx hb dX0_get_119 (by decide) ?_
                  exact m_lret hx hb hr hlocks hH hE hF dX0_get_120
                · have hF := bq_f hc19 hF
                  refine lv_lconst (v := (1)) hx hb dX0_get_115 (by decide) ?_
                  refine lv_goto (tgt := 120) hx hb dX0_get_116 (by decide) ?_
                  exact m_lret hx hb hr hlocks hH hE hF dX0_get_120

def F_X1_init (o : Nat) (x1 : Int32) (x2 : Int32) : St (Unit) :=
  bd (pV [3, 4, 6] 2 (some o) (va_rf none)) fun _ => bd (pV [3, 4, 6] 3 (some o) (va_rf none)) fun _ => bd (pV [3, 4, 6] 0 (some o) (.int x1)) fun _ => bd (pV [3, 4, 6] 1 (some o) (.int x2)) fun _ => rt ()
set_option maxHeartbeats 4000000 in
set_option maxRecDepth 100000 in
theorem t_X1_init (l : Launch) (D : va_G) (cy : Nat → ClassId) (z : Nat) (o : Nat) (x1 : Int32) (x2 : Int32) : MT l D cy z yX1_init cX1_init 3 none 1 40 (F_X1_init o x1 x2) vU [.ref o, .int x1, .int x2] := by
  refine m_enter [(0, .ref o), (1, .int x1), (2, .int x2)] (by decide) (by first | rfl | simp [lv_args, m_cat, m_ci, m_cl, m_cf, m_cd, m_cr]) (by first | exact Nat.le_of_ble_eq_true rfl | simp [lg_sl, m_cat, m_ci, m_cl, m_cf, m_cd, m_cr]) ?_
  intro p e R s m args below meth c ws0 wsf rr cx hE ws H locs cells slots ls hl hH hF
  obtain ⟨hx, hb, hr, hml, hown, hk, hz, hlocks, hnm, hfr, hlo⟩ := id cx
  unfold F_X1_init at hF
  refine lv_aload_n hx hb dX1_init_0 rfl (lv_at hl 0 rfl) ?_
  refine W.objInit hx hb hown (hk.wd wd_247 args) (hk.wd wd_52 args) (hk.wd wd_53 args) rfl (by rw [hml]; exact hl.1) rfl dX1_init_1 (Nat.le_trans (by decide) hfr) (Nat.le_trans (m := 40) (by first | exact Nat.le_of_ble_eq_true rfl | simp [m_cat, m_ci, m_cl, m_cf, m_cd, m_cr]) (Nat.le_trans (by decide) hlo)) ?_
  refine W.eq (g2 := F0 m 4 ls []) rfl ?_
  refine lv_aload_n hx hb dX1_init_4 rfl (lv_at hl 0 rfl) ?_
  refine lv_null hx hb dX1_init_5 ?_
  refine m_pV hx hb hown hk hH hF fk_RX1_row lk_RX1_9 pd_0 (m_nra _ _) (m_fra _ _) dX1_init_6 (fun ws H locs hH hF => ?_)
  refine lv_aload_n hx hb dX1_init_9 rfl (lv_at hl 0 rfl) ?_
  refine lv_null hx hb dX1_init_10 ?_
  refine m_pV hx hb hown hk hH hF fk_RX1_form lk_RX1_15 pd_8 (m_nrf _ _) (m_frf _ _) dX1_init_11 (fun ws H locs hH hF => ?_)
  refine lv_aload_n hx hb dX1_init_14 rfl (lv_at hl 0 rfl) ?_
  refine lv_iload_n hx hb dX1_init_15 rfl (lv_at hl 1 rfl) ?_
  refine m_pVF hx hb hown hk hH hnm hF fk_RX1_sort wd_251 rfl pd_9 rfl rfl dX1_init_16 (fun ws H locs hH hF => ?_)
  refine lv_aload_n hx hb dX1_init_19 rfl (lv_at hl 0 rfl) ?_
  refine lv_iload_n hx hb dX1_init_20 rfl (lv_at hl 2 rfl) ?_
  refine m_pVF hx hb hown hk hH hnm hF fk_RX1_work wd_254 rfl pd_9 rfl rfl dX1_init_21 (fun ws H locs hH hF => ?_)
  exact m_vret hx hb hr hlocks hH hE hF dX1_init_24

def F_X10_nearestValue (x0 : Int64) : St (Int32) :=
  rt ((if (if x0 < (1000000 : Int64) then x0 else (1000000 : Int64)) < (-1000000 : Int64) then (-1000000 : Int64) else (if x0 < (1000000 : Int64) then x0 else (1000000 : Int64))).toInt32)
set_option maxHeartbeats 4000000 in
set_option maxRecDepth 100000 in
theorem t_X10_nearestValue (l : Launch) (D : va_G) (cy : Nat → ClassId) (z : Nat) (x0 : Int64) : MT l D cy z yX10_nearestValue cX10_nearestValue 2 (some .int) 1 40 (F_X10_nearestValue x0) vI [.long x0] := by
  refine m_enter [(0, .long x0)] (by decide) (by first | rfl | simp [lv_args, m_cat, m_ci, m_cl, m_cf, m_cd, m_cr]) (by first | exact Nat.le_of_ble_eq_true rfl | simp [lg_sl, m_cat, m_ci, m_cl, m_cf, m_cd, m_cr]) ?_
  intro p e R s m args below meth c ws0 wsf rr cx hE ws H locs cells slots ls hl hH hF
  obtain ⟨hx, hb, hr, hml, hown, hk, hz, hlocks, hnm, hfr, hlo⟩ := id cx
  unfold F_X10_nearestValue at hF
  refine lv_ldc2 hx hb hown (hk.wd wd_414 args) dX10_nearestValue_0 ?_
  refine lv_ldc2 hx hb hown (hk.wd wd_415 args) dX10_nearestValue_3 ?_
  refine lv_lload_n hx hb dX10_nearestValue_6 rfl (lv_at hl 0 rfl) ?_
  refine va_mmin_long hx hb (hml.trans hl.1.symm) hown (hk.wd wd_416 args) (hk.wd wd_417 args) (hk.wd wd_42 args) (hk.wd wd_418 args) (Nat.le_trans (by decide) hfr) (Nat.le_trans (m := 40) (by first | exact Nat.le_of_ble_eq_true rfl | simp [m_cat, m_ci, m_cl, m_cf, m_cd, m_cr]) (Nat.le_trans (by decide) hlo)) (m_cells hH hE.le hF).1 (m_cells hH hE.le hF).2 dX10_nearestValue_7 ?_
  refine va_mmax_long hx hb (hml.trans hl.1.symm) hown (hk.wd wd_419 args) (hk.wd wd_420 args) (hk.wd wd_42 args) (hk.wd wd_421 args) (Nat.le_trans (by decide) hfr) (Nat.le_trans (m := 40) (by first | exact Nat.le_of_ble_eq_true rfl | simp [m_cat, m_ci, m_cl, m_cf, m_cd, m_cr]) (Nat.le_trans (by decide) hlo)) (m_cells hH hE.le hF).1 (m_cells hH hE.le hF).2 dX10_nearestValue_10 ?_
  refine lv_l2i hx hb dX10_nearestValue_13 rfl ?_
  exact m_iret hx hb hr hlocks hH hE hF rfl dX10_nearestValue_14

def F_J9_floorDiv_f86c9 (x0 : Int64) (x2 : Int64) : St (Int64) :=
  bd (ck (¬ x2 = 0)) fun _ => bd (rt (x0 / x2)) fun v2 => br (0 ≤ (lg_cmp (x0 ^^^ x2) (0 : Int64))) (rt v2) (br ((lg_cmp (v2 * x2) x0) = 0) (rt v2) (rt (v2 - (1 : Int64))))
set_option maxHeartbeats 4000000 in
set_option maxRecDepth 100000 in
theorem t_J9_floorDiv_f86c9 (l : Launch) (D : va_G) (cy : Nat → ClassId) (z : Nat) (x0 : Int64) (x2 : Int64) : MT l D cy z yJ9_floorDiv_f86c9 cJ9_floorDiv_f86c9 6 (some .long) 0 0 (F_J9_floorDiv_f86c9 x0 x2) vL [.long x0, .long x2] := by
  refine m_enterF [(0, .long x0), (2, .long x2)] (by decide +kernel) (by first | rfl | simp [lv_args, m_cat, m_ci, m_cl, m_cf, m_cd, m_cr]) (by first | exact Nat.le_of_ble_eq_true rfl | simp [lg_sl, m_cat, m_ci, m_cl, m_cf, m_cd, m_cr]) ?_
  intro p e R s m args below meth c ws0 wsf rr cx hE ws H locs cells slots ls hl hH hF
  obtain ⟨hx, hb, hr, hml, hown, hk, hz, hlocks, hnm, hfr, hlo⟩ := id cx
  unfold F_J9_floorDiv_f86c9 at hF
  refine lv_lload_n hx hb dJ9_floorDiv_f86c9_0 rfl (lv_at hl 0 rfl) ?_
  refine lv_lload_n hx hb dJ9_floorDiv_f86c9_1 rfl (lv_at hl 1 rfl) ?_
  obtain ⟨hq0, hF⟩ := ck_t hF
  refine lv_ldiv hx hb dJ9_floorDiv_f86c9_2 hq0 ?_
  refine lv_topl (fun v2 hv2 => ?_)
  have hF := rt_t hv2 hF
  refine lv_lstore (lv' := [(4, .long v2), (0, .long x0), (2, .long x2)]) hx hb dJ9_floorDiv_f86c9_3 hl (by decide) (by first | rfl | simp [m_cat, m_ci, m_cl, m_cf, m_cd, m_cr]) (fun ls hl => ?_)
  refine lv_lload_n hx hb dJ9_floorDiv_f86c9_5 rfl (lv_at hl 1 rfl) ?_
  refine lv_lload_n hx hb dJ9_floorDiv_f86c9_6 rfl (lv_at hl 2 rfl) ?_
  refine lv_lxor hx hb dJ9_floorDiv_f86c9_7 ?_
  refine lv_lconst (v := (0)) hx hb dJ9_floorDiv_f86c9_8 (by decide) ?_
  refine W.lcmp hx hb dJ9_floorDiv_f86c9_9 ?_
  refine lv_if_ge (tgt := 27) hx hb dJ9_floorDiv_f86c9_10 (by decide) (fun hc2 => ?_) (fun hc2 => ?_)
  · have hF := bq_t hc2 hF
    refine lv_lload hx hb dJ9_floorDiv_f86c9_27 (lv_at hl 0 rfl) ?_
    exact m_lret hx hb hr hlocks hH hE hF dJ9_floorDiv_f86c9_29
  · have hF := bq_f hc2 hF
    refine lv_lload hx hb dJ9_floorDiv_f86c9_13 (lv_at hl 0 rfl) ?_
    refine lv_lload_n hx hb dJ9_floorDiv_f86c9_15 rfl (lv_at hl 2 rfl) ?_
    refine lv_lmul hx hb dJ9_floorDiv_f86c9_16 ?_
    refine lv_lload_n hx hb dJ9_floorDiv_f86c9_17 rfl (lv_at hl 1 rfl) ?_
    refine W.lcmp hx hb dJ9_floorDiv_f86c9_18 ?_
    refine lv_if_eq (tgt := 27) hx hb dJ9_floorDiv_f86c9_19 (by decide) (fun hc3 => ?_) (fun hc3 => ?_)
    · have hF := bq_t hc3 hF
      refine lv_lload hx hb dJ9_floorDiv_f86c9_27 (lv_at hl 0 rfl) ?_
      exact m_lret hx hb hr hlocks hH hE hF dJ9_floorDiv_f86c9_29
    · have hF := bq_f hc3 hF
      refine lv_lload hx hb dJ9_floorDiv_f86c9_22 (lv_at hl 0 rfl) ?_
      refine lv_lconst (v := (1)) hx hb dJ9_floorDiv_f86c9_24 (by decide) ?_
      refine lv_lsub hx hb dJ9_floorDiv_f86c9_25 ?_
      exact m_lret hx hb hr hlocks hH hE hF dJ9_floorDiv_f86c9_26

def j_X10_rounded_55 (x4 : Int64) (s0 : Int32) : St (Int64) :=
  br (s0 = 0) (rt x4) (rt (x4 + (1 : Int64)))
def j_X10_rounded_50 (x4 : Int64) : St (Int64) :=
  j_X10_rounded_55 x4 (1 : Int32)
def j_X10_rounded_54 (x4 : Int64) : St (Int64) :=
  j_X10_rounded_55 x4 (0 : Int32)
def F_X10_rounded (x0 : Int64) (x2 : Int64) : St (Int64) :=
  br (0 < (lg_cmp x2 (0 : Int64))) (bd (F_J9_floorDiv_f86c9 x0 x2) fun c2 => bd (rt ((2 : Int64) * (x0 - (c2 * x2)))) fun v3 => br (0 < (lg_cmp v3 x2)) (j_X10_rounded_50 c2) (br ((lg_cmp v3 x2) = 0) (br ((lg_cmp (c2 &&& (1 : Int64)) (0 : Int64)) = 0) (j_X10_rounded_54 c2) (j_X10_rounded_50 c2)) (j_X10_rounded_54 c2))) (rt (0 : Int64))
set_option maxHeartbeats 4000000 in
set_option maxRecDepth 100000 in
theorem w_X10_rounded_55 {l : Launch} {D : va_G} {cy : Nat → ClassId} {z : Nat} {p : Program} {e : Env} {R : Room} {s : State} {m : MethodId} {args : Array Value} {below : List Frame} {meth : Method} {c : Code} {ws0 wsf : WS} {rr : Int64} (cx : Cx D cy z RX10 cX10_rounded 9 (some .long) 1 40 "rounded" p R s m meth c) (hE : AC ws0 wsf R.cells R.slots) (x4 : Int64) (s0 : Int32) : At_ l D cy z p e R s m args below meth c ws0 wsf vL rr 9 55 [(4, .long x4)] [.int s0] (j_X10_rounded_55 x4 s0) := by
  intro ws H locs cells slots ls hl hH hF
  obtain ⟨hx, hb, hr, hml, hown, hk, hz, hlocks, hnm, hfr, hlo⟩ := id cx
  unfold j_X10_rounded_55 at hF
  refine lv_istore (lv' := [(8, .int s0), (4, .long x4)]) hx hb dX10_rounded_55 hl (by decide) (by first | rfl | simp [m_cat, m_ci, m_cl, m_cf, m_cd, m_cr]) (fun ls hl => ?_)
  refine lv_iload hx hb dX10_rounded_57 (lv_at hl 0 rfl) ?_
  refine lv_if_eq (tgt := 69) hx hb dX10_rounded_59 (by decide) (fun hc4 => ?_) (fun hc4 => ?_)
  · have hF := bq_t hc4 hF
    refine lv_lload hx hb dX10_rounded_69 (lv_at hl 1 rfl) ?_
    exact m_lret hx hb hr hlocks hH hE hF dX10_rounded_71
  · have hF := bq_f hc4 hF
    refine lv_lload hx hb dX10_rounded_62 (lv_at hl 1 rfl) ?_
    refine lv_lconst (v := (1)) hx hb dX10_rounded_64 (by decide) ?_
    refine lv_ladd hx hb dX10_rounded_65 ?_
    refine lv_goto (tgt := 71) hx hb dX10_rounded_66 (by decide) ?_
    exact m_lret hx hb hr hlocks hH hE hF dX10_rounded_71
set_option maxHeartbeats 4000000 in
set_option maxRecDepth 100000 in
theorem w_X10_rounded_50 {l : Launch} {D : va_G} {cy : Nat → ClassId} {z : Nat} {p : Program} {e : Env} {R : Room} {s : State} {m : MethodId} {args : Array Value} {below : List Frame} {meth : Method} {c : Code} {ws0 wsf : WS} {rr : Int64} (cx : Cx D cy z RX10 cX10_rounded 9 (some .long) 1 40 "rounded" p R s m meth c) (hE : AC ws0 wsf R.cells R.slots) (x4 : Int64) : At_ l D cy z p e R s m args below meth c ws0 wsf vL rr 9 50 [(4, .long x4)] [] (j_X10_rounded_50 x4) := by
  intro ws H locs cells slots ls hl hH hF
  obtain ⟨hx, hb, hr, hml, hown, hk, hz, hlocks, hnm, hfr, hlo⟩ := id cx
  unfold j_X10_rounded_50 at hF
  refine lv_iconst (v := (1)) hx hb dX10_rounded_50 (by decide) ?_
  refine lv_goto (tgt := 55) hx hb dX10_rounded_51 (by decide) ?_
  exact w_X10_rounded_55 cx hE x4 (1 : Int32) _ _ _ _ _ _ (lv_sub hl [0] rfl) hH hF
set_option maxHeartbeats 4000000 in
set_option maxRecDepth 100000 in
theorem w_X10_rounded_54 {l : Launch} {D : va_G} {cy : Nat → ClassId} {z : Nat} {p : Program} {e : Env} {R : Room} {s : State} {m : MethodId} {args : Array Value} {below : List Frame} {meth : Method} {c : Code} {ws0 wsf : WS} {rr : Int64} (cx : Cx D cy z RX10 cX10_rounded 9 (some .long) 1 40 "rounded" p R s m meth c) (hE : AC ws0 wsf R.cells R.slots) (x4 : Int64) : At_ l D cy z p e R s m args below meth c ws0 wsf vL rr 9 54 [(4, .long x4)] [] (j_X10_rounded_54 x4) := by
  intro ws H locs cells slots ls hl hH hF
  obtain ⟨hx, hb, hr, hml, hown, hk, hz, hlocks, hnm, hfr, hlo⟩ := id cx
  unfold j_X10_rounded_54 at hF
  refine lv_iconst (v := (0)) hx hb dX10_rounded_54 (by decide) ?_
  exact w_X10_rounded_55 cx hE x4 (0 : Int32) _ _ _ _ _ _ (lv_sub hl [0] rfl) hH hF
set_option maxHeartbeats 4000000 in
set_option maxRecDepth 100000 in
theorem t_X10_rounded (l : Launch) (D : va_G) (cy : Nat → ClassId) (z : Nat) (x0 : Int64) (x2 : Int64) : MT l D cy z yX10_rounded cX10_rounded 9 (some .long) 1 40 (F_X10_rounded x0 x2) vL [.long x0, .long x2] := by
  refine m_enter [(0, .long x0), (2, .long x2)] (by decide) (by first | rfl | simp [lv_args, m_cat, m_ci, m_cl, m_cf, m_cd, m_cr]) (by first | exact Nat.le_of_ble_eq_true rfl | simp [lg_sl, m_cat, m_ci, m_cl, m_cf, m_cd, m_cr]) ?_
  intro p e R s m args below meth c ws0 wsf rr cx hE ws H locs cells slots ls hl hH hF
  obtain ⟨hx, hb, hr, hml, hown, hk, hz, hlocks, hnm, hfr, hlo⟩ := id cx
  unfold F_X10_rounded at hF
  refine lv_lload_n hx hb dX10_rounded_0 rfl (lv_at hl 1 rfl) ?_
  refine lv_lconst (v := (0)) hx hb dX10_rounded_1 (by decide) ?_
  refine W.lcmp hx hb dX10_rounded_2 ?_
  refine lv_if_gt (tgt := 8) hx hb dX10_rounded_3 (by decide) (fun hc0 => ?_) (fun hc0 => ?_)
  · have hF := bq_t hc0 hF
    refine lv_lload_n hx hb dX10_rounded_8 rfl (lv_at hl 0 rfl) ?_
    refine lv_lload_n hx hb dX10_rounded_9 rfl (lv_at hl 1 rfl) ?_
    refine m_cSL hx hb hml hown hk hH hE.le hz (As := [.long x0, .long x2]) (rest := []) (t_J9_floorDiv_f86c9 l D cy z x0 x2) hF wd_330 wd_331 wd_42 wd_332 yn_J9_floorDiv_f86c9 ⟨Nat.le_trans (by decide) hfr, Nat.le_trans (by decide) hlo⟩ hl.1 (by first | exact Nat.le_of_ble_eq_true rfl | simp [m_cat, m_ci, m_cl, m_cf, m_cd, m_cr]) rfl dX10_rounded_10 (fun c2 ws H locs cells slots hH hF => ?_)
    refine lv_lstore (lv' := [(4, .long c2), (0, .long x0), (2, .long x2)]) hx hb dX10_rounded_13 hl (by decide) (by first | rfl | simp [m_cat, m_ci, m_cl, m_cf, m_cd, m_cr]) (fun ls hl => ?_)
    refine lv_ldc2 hx hb hown (hk.wd wd_333 args) dX10_rounded_15 ?_
    refine lv_lload_n hx hb dX10_rounded_18 rfl (lv_at hl 1 rfl) ?_
    refine lv_lload hx hb dX10_rounded_19 (lv_at hl 0 rfl) ?_
    refine lv_lload_n hx hb dX10_rounded_21 rfl (lv_at hl 2 rfl) ?_
    refine lv_lmul hx hb dX10_rounded_22 ?_
    refine lv_lsub hx hb dX10_rounded_23 ?_
    refine lv_lmul hx hb dX10_rounded_24 ?_
    refine lv_topl (fun v3 hv3 => ?_)
    have hF := rt_t hv3 hF
    refine lv_lstore (lv' := [(6, .long v3), (4, .long c2), (0, .long x0), (2, .long x2)]) hx hb dX10_rounded_25 hl (by decide) (by first | rfl | simp [m_cat, m_ci, m_cl, m_cf, m_cd, m_cr]) (fun ls hl => ?_)
    refine lv_lload hx hb dX10_rounded_27 (lv_at hl 0 rfl) ?_
    refine lv_lload_n hx hb dX10_rounded_29 rfl (lv_at hl 3 rfl) ?_
    refine W.lcmp hx hb dX10_rounded_30 ?_
    refine lv_if_gt (tgt := 50) hx hb dX10_rounded_31 (by decide) (fun hc3 => ?_) (fun hc3 => ?_)
    · have hF := bq_t hc3 hF
      exact w_X10_rounded_50 cx hE c2 _ _ _ _ _ _ (lv_sub hl [1] rfl) hH hF
    · have hF := bq_f hc3 hF
      refine lv_lload hx hb dX10_rounded_34 (lv_at hl 0 rfl) ?_
      refine lv_lload_n hx hb dX10_rounded_36 rfl (lv_at hl 3 rfl) ?_
      refine W.lcmp hx hb dX10_rounded_37 ?_
      refine lv_if_ne (tgt := 54) hx hb dX10_rounded_38 (by decide) (fun hc5 => ?_) (fun hc5 => ?_)
      · have hF := bq_f hc5 hF
        exact w_X10_rounded_54 cx hE c2 _ _ _ _ _ _ (lv_sub hl [1] rfl) hH hF
      · have hF := bq_t hc5 hF
        refine lv_lload hx hb dX10_rounded_41 (lv_at hl 1 rfl) ?_
        refine lv_lconst (v := (1)) hx hb dX10_rounded_43 (by decide) ?_
        refine lv_land hx hb dX10_rounded_44 ?_
        refine lv_lconst (v := (0)) hx hb dX10_rounded_45 (by decide) ?_
        refine W.lcmp hx hb dX10_rounded_46 ?_
        refine lv_if_eq (tgt := 54) hx hb dX10_rounded_47 (by decide) (fun hc6 => ?_) (fun hc6 => ?_)
        · have hF := bq_t hc6 hF
          exact w_X10_rounded_54 cx hE c2 _ _ _ _ _ _ (lv_sub hl [1] rfl) hH hF
        · have hF := bq_f hc6 hF
          exact w_X10_rounded_50 cx hE c2 _ _ _ _ _ _ (lv_sub hl [1] rfl) hH hF
  · have hF := bq_f hc0 hF
    refine lv_lconst (v := (0)) hx hb dX10_rounded_6 (by decide) ?_
    exact m_lret hx hb hr hlocks hH hE hF dX10_rounded_7

def F_X4_workedOut (o : Nat) (x1 : Int32) : St (Int32) :=
  bd (gL [3] 4 (some o)) fun v1 => bd (gL [3] 5 (some o)) fun v2 => bd (gL [3] 6 (some o)) fun v3 => bd (F_X10_rounded (v1 + (v2 * x1.toInt64)) v3) fun c4 => bd (F_X10_nearestValue c4) fun c5 => rt c5
set_option maxHeartbeats 4000000 in
set_option maxRecDepth 100000 in
theorem t_X4_workedOut (l : Launch) (D : va_G) (cy : Nat → ClassId) (z : Nat) (o : Nat) (x1 : Int32) : MT l D cy z yX4_workedOut cX4_workedOut 2 (some .int) 2 68 (F_X4_workedOut o x1) vI [.ref o, .int x1] := by
  refine m_enter [(0, .ref o), (1, .int x1)] (by decide) (by first | rfl | simp [lv_args, m_cat, m_ci, m_cl, m_cf, m_cd, m_cr]) (by first | exact Nat.le_of_ble_eq_true rfl | simp [lg_sl, m_cat, m_ci, m_cl, m_cf, m_cd, m_cr]) ?_
  intro p e R s m args below meth c ws0 wsf rr cx hE ws H locs cells slots ls hl hH hF
  obtain ⟨hx, hb, hr, hml, hown, hk, hz, hlocks, hnm, hfr, hlo⟩ := id cx
  unfold F_X4_workedOut at hF
  refine lv_aload_n hx hb dX4_workedOut_0 rfl (lv_at hl 0 rfl) ?_
  refine m_gL hx hb hown hk hH hF fk_RX4_atZero lk_RX4_9 dX4_workedOut_1 (fun v1 hF => ?_)
  refine lv_aload_n hx hb dX4_workedOut_4 rfl (lv_at hl 0 rfl) ?_
  refine m_gL hx hb hown hk hH hF fk_RX4_perCount lk_RX4_15 dX4_workedOut_5 (fun v2 hF => ?_)
  refine lv_iload_n hx hb dX4_workedOut_8 rfl (lv_at hl 1 rfl) ?_
  refine lv_i2l hx hb dX4_workedOut_9 rfl ?_
  refine lv_lmul hx hb dX4_workedOut_10 ?_
  refine lv_ladd hx hb dX4_workedOut_11 ?_
  refine lv_aload_n hx hb dX4_workedOut_12 rfl (lv_at hl 0 rfl) ?_
  refine m_gL hx hb hown hk hH hF fk_RX4_divisor lk_RX4_18 dX4_workedOut_13 (fun v3 hF => ?_)
  refine m_cSNL hx hb hml hown hk hH hE.le hz (As := [.long (v1 + (v2 * x1.toInt64)), .long v3]) (rest := []) (t_X10_rounded l D cy z (v1 + (v2 * x1.toInt64)) v3) hF ⟨_, wd_410⟩ wd_328 wd_33 wd_329 yn_X10_rounded ⟨Nat.le_trans (by decide) hfr, Nat.le_trans (by decide) hlo⟩ hl.1 (by first | exact Nat.le_of_ble_eq_true rfl | simp [m_cat, m_ci, m_cl, m_cf, m_cd, m_cr]) rfl dX4_workedOut_16 (fun c4 ws H locs cells slots hH hF => ?_)
  refine m_cSNI hx hb hml hown hk hH hE.le hz (As := [.long c4]) (rest := []) (t_X10_nearestValue l D cy z c4) hF ⟨_, wd_411⟩ wd_412 wd_33 wd_413 yn_X10_nearestValue ⟨Nat.le_trans (by decide) hfr, Nat.le_trans (by decide) hlo⟩ hl.1 (by first | exact Nat.le_of_ble_eq_true rfl | simp [m_cat, m_ci, m_cl, m_cf, m_cd, m_cr]) rfl dX4_workedOut_19 (fun c5 ws H locs cells slots hH hF => ?_)
  exact m_iret hx hb hr hlocks hH hE hF rfl dX4_workedOut_22

def j_X3_howManyUpTo_37 (rec : Int32 → Int32 → St (Int32)) (k : Int32 → St (Int32)) (x0 : Nat) (x1 : Int32) (x2 : Int32) (x3 : Int32) : St (Int32) :=
  bd (rt (x3 / (2 : Int32))) fun v4 => rec x2 v4
def b_X3_howManyUpTo_5 (x0 : Nat) (x1 : Int32) (rec : Int32 → Int32 → St (Int32)) (k : Int32 → St (Int32)) (x2 : Int32) (x3 : Int32) : St (Int32) :=
  br (x3 ≤ 0) (k x2) (bd (gI [2] 2 (some x0)) fun v2 => br (v2 < (x2 + x3)) (j_X3_howManyUpTo_37 rec k x0 x1 x2 x3) (bd (gR [2] 0 (some x0)) fun v5 => bd (aI 0 v5 ((x2 + x3) - (1 : Int32))) fun v6 => br (x1 < v6) (j_X3_howManyUpTo_37 rec k x0 x1 x2 x3) (bd (rt (x2 + x3)) fun v8 => j_X3_howManyUpTo_37 rec k x0 x1 v8 x3)))
def l_X3_howManyUpTo_5 (x0 : Nat) (x1 : Int32) (k : Int32 → St (Int32)) : Nat → Int32 → Int32 → St (Int32)
  | 0 => fun _ _ => fl
  | n + 1 => fun x2 x3 => b_X3_howManyUpTo_5 x0 x1 (l_X3_howManyUpTo_5 x0 x1 k n) k x2 x3
def F_X3_howManyUpTo (o : Nat) (x1 : Int32) : St (Int32) :=
  l_X3_howManyUpTo_5 o x1 (fun (e9 : Int32) => rt e9) FU (0 : Int32) (32 : Int32)
set_option maxHeartbeats 4000000 in
set_option maxRecDepth 100000 in
theorem w_X3_howManyUpTo_37 {l : Launch} {D : va_G} {cy : Nat → ClassId} {z : Nat} {p : Program} {e : Env} {R : Room} {s : State} {m : MethodId} {args : Array Value} {below : List Frame} {meth : Method} {c : Code} {ws0 wsf : WS} {rr : Int32} (cx : Cx D cy z RX3 cX3_howManyUpTo 4 (some .int) 0 0 "howManyUpTo" p R s m meth c) (hE : AC ws0 wsf R.cells R.slots) (rec : Int32 → Int32 → St (Int32)) (k : Int32 → St (Int32)) (x0 : Nat) (x1 : Int32) (hrec : ∀ (x2 : Int32) (x3 : Int32), At_ l D cy z p e R s m args below meth c ws0 wsf vI rr 4 5 [(0, .ref x0), (1, .int x1), (2, .int x2), (3, .int x3)] [] (rec x2 x3)) (hkk : ∀ (x2 : Int32), At_ l D cy z p e R s m args below meth c ws0 wsf vI rr 4 44 [(2, .int x2)] [] (k x2)) (x2 : Int32) (x3 : Int32) : At_ l D cy z p e R s m args below meth c ws0 wsf vI rr 4 37 [(0, .ref x0), (1, .int x1), (2, .int x2), (3, .int x3)] [] (j_X3_howManyUpTo_37 rec k x0 x1 x2 x3) := by
  intro ws H locs cells slots ls hl hH hF
  obtain ⟨hx, hb, hr, hml, hown, hk, hz, hlocks, hnm, hfr, hlo⟩ := id cx
  unfold j_X3_howManyUpTo_37 at hF
  refine lv_iload_n hx hb dX3_howManyUpTo_37 rfl (lv_at hl 3 rfl) ?_
  refine lv_iconst (v := (2)) hx hb dX3_howManyUpTo_38 (by decide) ?_
  refine lv_idiv hx hb dX3_howManyUpTo_39 (by decide) ?_
  refine lv_topi (fun v4 hv4 => ?_)
  have hF := rt_t hv4 hF
  refine lv_istore_n (lv' := [(3, .int v4), (0, .ref x0), (1, .int x1), (2, .int x2)]) hx hb dX3_howManyUpTo_40 rfl hl (by decide) (by first | rfl | simp [m_cat, m_ci, m_cl, m_cf, m_cd, m_cr]) (fun ls hl => ?_)
  refine lv_goto (tgt := 5) hx hb dX3_howManyUpTo_41 (by decide) ?_
  exact hrec _ _ _ _ _ _ _ _ (lv_sub hl [1, 2, 3, 0] rfl) hH hF
set_option maxHeartbeats 4000000 in
set_option maxRecDepth 100000 in
theorem wb_X3_howManyUpTo_5 {l : Launch} {D : va_G} {cy : Nat → ClassId} {z : Nat} {p : Program} {e : Env} {R : Room} {s : State} {m : MethodId} {args : Array Value} {below : List Frame} {meth : Method} {c : Code} {ws0 wsf : WS} {rr : Int32} (cx : Cx D cy z RX3 cX3_howManyUpTo 4 (some .int) 0 0 "howManyUpTo" p R s m meth c) (hE : AC ws0 wsf R.cells R.slots) (x0 : Nat) (x1 : Int32) (rec : Int32 → Int32 → St (Int32)) (k : Int32 → St (Int32)) (hrec : ∀ (x2 : Int32) (x3 : Int32), At_ l D cy z p e R s m args below meth c ws0 wsf vI rr 4 5 [(0, .ref x0), (1, .int x1), (2, .int x2), (3, .int x3)] [] (rec x2 x3)) (hkk : ∀ (x2 : Int32), At_ l D cy z p e R s m args below meth c ws0 wsf vI rr 4 44 [(2, .int x2)] [] (k x2)) (x2 : Int32) (x3 : Int32) : At_ l D cy z p e R s m args below meth c ws0 wsf vI rr 4 5 [(0, .ref x0), (1, .int x1), (2, .int x2), (3, .int x3)] [] (b_X3_howManyUpTo_5 x0 x1 rec k x2 x3) := by
  intro ws H locs cells slots ls hl hH hF
  obtain ⟨hx, hb, hr, hml, hown, hk, hz, hlocks, hnm, hfr, hlo⟩ := id cx
  unfold b_X3_howManyUpTo_5 at hF
  refine lv_iload_n hx hb dX3_howManyUpTo_5 rfl (lv_at hl 3 rfl) ?_
  refine lv_if_le (tgt := 44) hx hb dX3_howManyUpTo_6 (by decide) (fun hc0 => ?_) (fun hc0 => ?_)
  · have hF := bq_t hc0 hF
    exact hkk _ _ _ _ _ _ _ (lv_sub hl [2] rfl) hH hF
  · have hF := bq_f hc0 hF
    refine lv_iload_n hx hb dX3_howManyUpTo_9 rfl (lv_at hl 2 rfl) ?_
    refine lv_iload_n hx hb dX3_howManyUpTo_10 rfl (lv_at hl 3 rfl) ?_
    refine lv_iadd hx hb dX3_howManyUpTo_11 ?_
    refine lv_aload_n hx hb dX3_howManyUpTo_12 rfl (lv_at hl 0 rfl) ?_
    refine m_gI hx hb hown hk hH hF fk_RX3_size lk_RX3_18 dX3_howManyUpTo_13 (fun v2 hF => ?_)
    refine lv_icmp_gt (tgt := 37) hx hb dX3_howManyUpTo_16 (by decide) (fun hc2 => ?_) (fun hc2 => ?_)
    · have hF := bq_t hc2 hF
      exact w_X3_howManyUpTo_37 cx hE _ _ x0 x1 hrec hkk x2 x3 _ _ _ _ _ _ (lv_sub hl [0, 1, 2, 3] rfl) hH hF
    · have hF := bq_f hc2 hF
      refine lv_aload_n hx hb dX3_howManyUpTo_19 rfl (lv_at hl 0 rfl) ?_
      refine m_gR hx hb hown hk hH hF fk_RX3_counts lk_RX3_9 dX3_howManyUpTo_20 (fun v5 hF => ?_)
      refine lv_iload_n hx hb dX3_howManyUpTo_23 rfl (lv_at hl 2 rfl) ?_
      refine lv_iload_n hx hb dX3_howManyUpTo_24 rfl (lv_at hl 3 rfl) ?_
      refine lv_iadd hx hb dX3_howManyUpTo_25 ?_
      refine lv_iconst (v := (1)) hx hb dX3_howManyUpTo_26 (by decide) ?_
      refine lv_isub hx hb dX3_howManyUpTo_27 ?_
      refine m_aI0 hx hb hk hH hF dX3_howManyUpTo_28 (fun v6 hF => ?_)
      refine lv_iload_n hx hb dX3_howManyUpTo_29 rfl (lv_at hl 1 rfl) ?_
      refine lv_icmp_gt (tgt := 37) hx hb dX3_howManyUpTo_30 (by decide) (fun hc6 => ?_) (fun hc6 => ?_)
      · have hF := bq_t hc6 hF
        exact w_X3_howManyUpTo_37 cx hE _ _ x0 x1 hrec hkk x2 x3 _ _ _ _ _ _ (lv_sub hl [0, 1, 2, 3] rfl) hH hF
      · have hF := bq_f hc6 hF
        refine lv_iload_n hx hb dX3_howManyUpTo_33 rfl (lv_at hl 2 rfl) ?_
        refine lv_iload_n hx hb dX3_howManyUpTo_34 rfl (lv_at hl 3 rfl) ?_
        refine lv_iadd hx hb dX3_howManyUpTo_35 ?_
        refine lv_topi (fun v8 hv8 => ?_)
        have hF := rt_t hv8 hF
        refine lv_istore_n (lv' := [(2, .int v8), (0, .ref x0), (1, .int x1), (3, .int x3)]) hx hb dX3_howManyUpTo_36 rfl hl (by decide) (by first | rfl | simp [m_cat, m_ci, m_cl, m_cf, m_cd, m_cr]) (fun ls hl => ?_)
        exact w_X3_howManyUpTo_37 cx hE _ _ x0 x1 hrec hkk v8 x3 _ _ _ _ _ _ (lv_sub hl [1, 2, 0, 3] rfl) hH hF
theorem w_X3_howManyUpTo_5 {l : Launch} {D : va_G} {cy : Nat → ClassId} {z : Nat} {p : Program} {e : Env} {R : Room} {s : State} {m : MethodId} {args : Array Value} {below : List Frame} {meth : Method} {c : Code} {ws0 wsf : WS} {rr : Int32} (cx : Cx D cy z RX3 cX3_howManyUpTo 4 (some .int) 0 0 "howManyUpTo" p R s m meth c) (hE : AC ws0 wsf R.cells R.slots) (x0 : Nat) (x1 : Int32) (k : Int32 → St (Int32)) (hkk : ∀ (x2 : Int32), At_ l D cy z p e R s m args below meth c ws0 wsf vI rr 4 44 [(2, .int x2)] [] (k x2)) : ∀ (n : Nat) (x2 : Int32) (x3 : Int32), At_ l D cy z p e R s m args below meth c ws0 wsf vI rr 4 5 [(0, .ref x0), (1, .int x1), (2, .int x2), (3, .int x3)] [] (l_X3_howManyUpTo_5 x0 x1 k n x2 x3) := by
  intro n
  induction n with
  | zero =>
    intro x2 x3 ws H locs cells slots ls hl hH hF
    exact fl_t hF
  | succ n ih =>
    intro x2 x3
    exact wb_X3_howManyUpTo_5 cx hE x0 x1 (l_X3_howManyUpTo_5 x0 x1 k n) k ih hkk x2 x3
set_option maxHeartbeats 4000000 in
set_option maxRecDepth 100000 in
theorem t_X3_howManyUpTo (l : Launch) (D : va_G) (cy : Nat → ClassId) (z : Nat) (o : Nat) (x1 : Int32) : MT l D cy z yX3_howManyUpTo cX3_howManyUpTo 4 (some .int) 0 0 (F_X3_howManyUpTo o x1) vI [.ref o, .int x1] := by
  refine m_enter [(0, .ref o), (1, .int x1)] (by decide) (by first | rfl | simp [lv_args, m_cat, m_ci, m_cl, m_cf, m_cd, m_cr]) (by first | exact Nat.le_of_ble_eq_true rfl | simp [lg_sl, m_cat, m_ci, m_cl, m_cf, m_cd, m_cr]) ?_
  intro p e R s m args below meth c ws0 wsf rr cx hE ws H locs cells slots ls hl hH hF
  obtain ⟨hx, hb, hr, hml, hown, hk, hz, hlocks, hnm, hfr, hlo⟩ := id cx
  unfold F_X3_howManyUpTo at hF
  refine lv_iconst (v := (0)) hx hb dX3_howManyUpTo_0 (by decide) ?_
  refine lv_istore_n (lv' := [(2, .int (0 : Int32)), (0, .ref o), (1, .int x1)]) hx hb dX3_howManyUpTo_1 rfl hl (by decide) (by first | rfl | simp [m_cat, m_ci, m_cl, m_cf, m_cd, m_cr]) (fun ls hl => ?_)
  refine lv_bipush (v := (32)) hx hb dX3_howManyUpTo_2 (by decide) ?_
  refine lv_istore_n (lv' := [(3, .int (32 : Int32)), (2, .int (0 : Int32)), (0, .ref o), (1, .int x1)]) hx hb dX3_howManyUpTo_4 rfl hl (by decide) (by first | rfl | simp [m_cat, m_ci, m_cl, m_cf, m_cd, m_cr]) (fun ls hl => ?_)
  refine w_X3_howManyUpTo_5 cx hE o x1 _ (fun e9 ws H locs cells slots ls hl hH hF => ?_) _ _ _ _ _ _ _ _ _ (lv_sub hl [2, 3, 1, 0] rfl) hH hF
  refine lv_iload_n hx hb dX3_howManyUpTo_44 rfl (lv_at hl 0 rfl) ?_
  exact m_iret hx hb hr hlocks hH hE hF rfl dX3_howManyUpTo_45
