def b_X11_line_36 (x0 : Nat) (x1 : Int32) (rec : Int64 → Int64 → Int64 → Int64 → Int64 → Int32 → St (Int32)) (k : Int64 → Int64 → Int64 → Int64 → Int64 → St (Int32)) (x2 : Int64) (x4 : Int64) (x6 : Int64) (x8 : Int64) (x10 : Int64) (x12 : Int32) : St (Int32) :=
  bd (gR [10] 0 (some x0)) fun v5 => bd (aI 0 v5 x1) fun v6 => br (v6 ≤ x12) (k x2 x4 x6 x8 x10) (bd (gR [10] 1 (some x0)) fun v8 => bd (aI 0 v8 (((24 : Int32) * x1) + x12)) fun v9 => bd (gR [10] 2 (some x0)) fun v10 => bd (aI 0 v10 (((24 : Int32) * x1) + x12)) fun v11 => bd (gR [10] 3 (some x0)) fun v12 => bd (aI 0 v12 (((24 : Int32) * x1) + x12)) fun v13 => bd (rt (x2 + v13.toInt64)) fun v14 => bd (rt (x4 + (v13.toInt64 * v9.toInt64))) fun v15 => bd (rt (x6 + (v13.toInt64 * v11.toInt64))) fun v16 => bd (rt (x8 + ((v13.toInt64 * v9.toInt64) * v9.toInt64))) fun v17 => bd (rt (x10 + ((v13.toInt64 * v9.toInt64) * v11.toInt64))) fun v18 => rec v14 v15 v16 v17 v18 (x12 + (1 : Int32)))
def l_X11_line_36 (x0 : Nat) (x1 : Int32) (k : Int64 → Int64 → Int64 → Int64 → Int64 → St (Int32)) : Nat → Int64 → Int64 → Int64 → Int64 → Int64 → Int32 → St (Int32)
  | 0 => fun _ _ _ _ _ _ => fl
  | n + 1 => fun x2 x4 x6 x8 x10 x12 => b_X11_line_36 x0 x1 (l_X11_line_36 x0 x1 k n) k x2 x4 x6 x8 x10 x12
def b_X11_line_182 (x0 : Nat) (x2 : Int64) (x4 : Int64) (x6 : Int64) (x8 : Int64) (x10 : Int64) (x12 : Int64) (x14 : Int32) (rec : Int32 → St (Int32)) (k : St (Int32)) (x15 : Int32) : St (Int32) :=
  br ((4096 : Int32) ≤ x15) (k) (bd (gR [10] 7 (some x0)) fun v29 => bd (F_X11_rounded (((x8 * x6) - (x4 * x10)) + (x15.toInt64 * ((x2 * x10) - (x4 * x6)))) x12) fun c30 => bd (F_X11_bounded c30) fun c31 => bd (sI 0 v29 (((4096 : Int32) * x14) + x15) c31) fun _ => rec (x15 + (1 : Int32)))
def l_X11_line_182 (x0 : Nat) (x2 : Int64) (x4 : Int64) (x6 : Int64) (x8 : Int64) (x10 : Int64) (x12 : Int64) (x14 : Int32) (k : St (Int32)) : Nat → Int32 → St (Int32)
  | 0 => fun _ => fl
  | n + 1 => fun x15 => b_X11_line_182 x0 x2 x4 x6 x8 x10 x12 x14 (l_X11_line_182 x0 x2 x4 x6 x8 x10 x12 x14 k n) k x15
def F_X11_line (o : Nat) (x1 : Int32) : St (Int32) :=
  bd (F_X11_isSensor x1) fun c1 => br (c1 = 0) (rt (-2 : Int32)) (bd (gI [10] 4 (some o)) fun v3 => br (v3 = (60 : Int32)) (rt (-2 : Int32)) (l_X11_line_36 o x1 (fun (e19 : Int64) (e20 : Int64) (e21 : Int64) (e22 : Int64) (e23 : Int64) => bd (rt ((e19 * e22) - (e20 * e20))) fun v24 => br ((lg_cmp v24 (0 : Int64)) = 0) (rt (-3 : Int32)) (bd (dr [10] (some o)) fun q27 => bd (F_X11_newCurve q27.1 (0 : Int32) (1 : Int32)) fun c26 => l_X11_line_182 o e19 e20 e21 e22 e23 v24 c26 (rt c26) FU (0 : Int32))) FU (0 : Int64) (0 : Int64) (0 : Int64) (0 : Int64) (0 : Int64) (0 : Int32)))
set_option maxHeartbeats 4000000 in
set_option maxRecDepth 100000 in
theorem wb_X11_line_36 {l : Launch} {D : va_G} {cy : Nat → ClassId} {z : Nat} {p : Program} {e : Env} {R : Room} {s : State} {m : MethodId} {args : Array Value} {below : List Frame} {meth : Method} {c : Code} {ws0 wsf : WS} {rr : Int32} (cx : Cx D cy z RX11 cX11_line 19 (some .int) 2 67 "line" p R s m meth c) (hE : AC ws0 wsf R.cells R.slots) (x0 : Nat) (x1 : Int32) (rec : Int64 → Int64 → Int64 → Int64 → Int64 → Int32 → St (Int32)) (k : Int64 → Int64 → Int64 → Int64 → Int64 → St (Int32)) (hrec : ∀ (x2 : Int64) (x4 : Int64) (x6 : Int64) (x8 : Int64) (x10 : Int64) (x12 : Int32), At_ l D cy z p e R s m args below meth c ws0 wsf vI rr 19 36 [(0, .ref x0), (1, .int x1), (2, .long x2), (4, .long x4), (6, .long x6), (8, .long x8), (10, .long x10), (12, .int x12)] [] (rec x2 x4 x6 x8 x10 x12)) (hkk : ∀ (x2 : Int64) (x4 : Int64) (x6 : Int64) (x8 : Int64) (x10 : Int64), At_ l D cy z p e R s m args below meth c ws0 wsf vI rr 19 149 [(0, .ref x0), (2, .long x2), (4, .long x4), (6, .long x6), (8, .long x8), (10, .long x10)] [] (k x2 x4 x6 x8 x10)) (x2 : Int64) (x4 : Int64) (x6 : Int64) (x8 : Int64) (x10 : Int64) (x12 : Int32) : At_ l D cy z p e R s m args below meth c ws0 wsf vI rr 19 36 [(0, .ref x0), (1, .int x1), (2, .long x2), (4, .long x4), (6, .long x6), (8, .long x8), (10, .long x10), (12, .int x12)] [] (b_X11_line_36 x0 x1 rec k x2 x4 x6 x8 x10 x12) := by
  intro ws H locs cells slots ls hl hH hF
  obtain ⟨hx, hb, hr, hml, hown, hk, hz, hlocks, hnm, hfr, hlo⟩ := id cx
  unfold b_X11_line_36 at hF
  refine lv_iload hx hb dX11_line_36 (lv_at hl 7 rfl) ?_
  refine lv_aload_n hx hb dX11_line_38 rfl (lv_at hl 0 rfl) ?_
  refine m_gR hx hb hown hk hH hF fk_RX11_readings lk_RX11_9 dX11_line_39 (fun v5 hF => ?_)
  refine lv_iload_n hx hb dX11_line_42 rfl (lv_at hl 1 rfl) ?_
  refine m_aI0 hx hb hk hH hF dX11_line_43 (fun v6 hF => ?_)
  refine lv_icmp_ge (tgt := 149) hx hb dX11_line_44 (by decide) (fun hc6 => ?_) (fun hc6 => ?_)
  · have hF := bq_t hc6 hF
    exact hkk _ _ _ _ _ _ _ _ _ _ _ (lv_sub hl [0, 2, 3, 4, 5, 6] rfl) hH hF
  · have hF := bq_f hc6 hF
    refine lv_aload_n hx hb dX11_line_47 rfl (lv_at hl 0 rfl) ?_
    refine m_gR hx hb hown hk hH hF fk_RX11_count lk_RX11_13 dX11_line_48 (fun v8 hF => ?_)
    refine lv_bipush (v := (24)) hx hb dX11_line_51 (by decide) ?_
    refine lv_iload_n hx hb dX11_line_53 rfl (lv_at hl 1 rfl) ?_
    refine lv_imul hx hb dX11_line_54 ?_
    refine lv_iload hx hb dX11_line_55 (lv_at hl 7 rfl) ?_
    refine lv_iadd hx hb dX11_line_57 ?_
    refine m_aI0 hx hb hk hH hF dX11_line_58 (fun v9 hF => ?_)
    refine lv_i2l hx hb dX11_line_59 rfl ?_
    refine lv_lstore (lv' := [(13, .long v9.toInt64), (0, .ref x0), (1, .int x1), (2, .long x2), (4, .long x4), (6, .long x6), (8, .long x8), (10, .long x10), (12, .int x12)]) hx hb dX11_line_60 hl (by decide) (by first | rfl | simp [m_cat, m_ci, m_cl, m_cf, m_cd, m_cr]) (fun ls hl => ?_)
    refine lv_aload_n hx hb dX11_line_62 rfl (lv_at hl 1 rfl) ?_
    refine m_gR hx hb hown hk hH hF fk_RX11_reference lk_RX11_16 dX11_line_63 (fun v10 hF => ?_)
    refine lv_bipush (v := (24)) hx hb dX11_line_66 (by decide) ?_
    refine lv_iload_n hx hb dX11_line_68 rfl (lv_at hl 2 rfl) ?_
    refine lv_imul hx hb dX11_line_69 ?_
    refine lv_iload hx hb dX11_line_70 (lv_at hl 8 rfl) ?_
    refine lv_iadd hx hb dX11_line_72 ?_
    refine m_aI0 hx hb hk hH hF dX11_line_73 (fun v11 hF => ?_)
    refine lv_i2l hx hb dX11_line_74 rfl ?_
    refine lv_lstore (lv' := [(15, .long v11.toInt64), (13, .long v9.toInt64), (0, .ref x0), (1, .int x1), (2, .long x2), (4, .long x4), (6, .long x6), (8, .long x8), (10, .long x10), (12, .int x12)]) hx hb dX11_line_75 hl (by decide) (by first | rfl | simp [m_cat, m_ci, m_cl, m_cf, m_cd, m_cr]) (fun ls hl => ?_)
    refine lv_aload_n hx hb dX11_line_77 rfl (lv_at hl 2 rfl) ?_
    refine m_gR hx hb hown hk hH hF fk_RX11_weight lk_RX11_19 dX11_line_78 (fun v12 hF => ?_)
    refine lv_bipush (v := (24)) hx hb dX11_line_81 (by decide) ?_
    refine lv_iload_n hx hb dX11_line_83 rfl (lv_at hl 3 rfl) ?_
    refine lv_imul hx hb dX11_line_84 ?_
    refine lv_iload hx hb dX11_line_85 (lv_at hl 9 rfl) ?_
    refine lv_iadd hx hb dX11_line_87 ?_
    refine m_aI0 hx hb hk hH hF dX11_line_88 (fun v13 hF => ?_)
    refine lv_i2l hx hb dX11_line_89 rfl ?_
    refine lv_lstore (lv' := [(17, .long v13.toInt64), (15, .long v11.toInt64), (13, .long v9.toInt64), (0, .ref x0), (1, .int x1), (2, .long x2), (4, .long x4), (6, .long x6), (8, .long x8), (10, .long x10), (12, .int x12)]) hx hb dX11_line_90 hl (by decide) (by first | rfl | simp [m_cat, m_ci, m_cl, m_cf, m_cd, m_cr]) (fun ls hl => ?_)
    refine lv_lload_n hx hb dX11_line_92 rfl (lv_at hl 5 rfl) ?_
    refine lv_lload hx hb dX11_line_93 (lv_at hl 0 rfl) ?_
    refine lv_ladd hx hb dX11_line_95 ?_
    refine lv_topl (fun v14 hv14 => ?_)
    have hF := rt_t hv14 hF
    refine lv_lstore_n (lv' := [(2, .long v14), (17, .long v13.toInt64), (15, .long v11.toInt64), (13, .long v9.toInt64), (0, .ref x0), (1, .int x1), (4, .long x4), (6, .long x6), (8, .long x8), (10, .long x10), (12, .int x12)]) hx hb dX11_line_96 rfl hl (by decide) (by first | rfl | simp [m_cat, m_ci, m_cl, m_cf, m_cd, m_cr]) (fun ls hl => ?_)
    refine lv_lload hx hb dX11_line_97 (lv_at hl 6 rfl) ?_
    refine lv_lload hx hb dX11_line_99 (lv_at hl 1 rfl) ?_
    refine lv_lload hx hb dX11_line_101 (lv_at hl 3 rfl) ?_
    refine lv_lmul hx hb dX11_line_103 ?_
    refine lv_ladd hx hb dX11_line_104 ?_
    refine lv_topl (fun v15 hv15 => ?_)
    have hF := rt_t hv15 hF
    refine lv_lstore (lv' := [(4, .long v15), (2, .long v14), (17, .long v13.toInt64), (15, .long v11.toInt64), (13, .long v9.toInt64), (0, .ref x0), (1, .int x1), (6, .long x6), (8, .long x8), (10, .long x10), (12, .int x12)]) hx hb dX11_line_105 hl (by decide) (by first | rfl | simp [m_cat, m_ci, m_cl, m_cf, m_cd, m_cr]) (fun ls hl => ?_)
    refine lv_lload hx hb dX11_line_107 (lv_at hl 7 rfl) ?_
    refine lv_lload hx hb dX11_line_109 (lv_at hl 2 rfl) ?_
    refine lv_lload hx hb dX11_line_111 (lv_at hl 3 rfl) ?_
    refine lv_lmul hx hb dX11_line_113 ?_
    refine lv_ladd hx hb dX11_line_114 ?_
    refine lv_topl (fun v16 hv16 => ?_)
    have hF := rt_t hv16 hF
    refine lv_lstore (lv' := [(6, .long v16), (4, .long v15), (2, .long v14), (17, .long v13.toInt64), (15, .long v11.toInt64), (13, .long v9.toInt64), (0, .ref x0), (1, .int x1), (8, .long x8), (10, .long x10), (12, .int x12)]) hx hb dX11_line_115 hl (by decide) (by first | rfl | simp [m_cat, m_ci, m_cl, m_cf, m_cd, m_cr]) (fun ls hl => ?_)
    refine lv_lload hx hb dX11_line_117 (lv_at hl 8 rfl) ?_
    refine lv_lload hx hb dX11_line_119 (lv_at hl 3 rfl) ?_
    refine lv_lload hx hb dX11_line_121 (lv_at hl 5 rfl) ?_
    refine lv_lmul hx hb dX11_line_123 ?_
    refine lv_lload hx hb dX11_line_124 (lv_at hl 5 rfl) ?_
    refine lv_lmul hx hb dX11_line_126 ?_
    refine lv_ladd hx hb dX11_line_127 ?_
    refine lv_topl (fun v17 hv17 => ?_)
    have hF := rt_t hv17 hF
    refine lv_lstore (lv' := [(8, .long v17), (6, .long v16), (4, .long v15), (2, .long v14), (17, .long v13.toInt64), (15, .long v11.toInt64), (13, .long v9.toInt64), (0, .ref x0), (1, .int x1), (10, .long x10), (12, .int x12)]) hx hb dX11_line_128 hl (by decide) (by first | rfl | simp [m_cat, m_ci, m_cl, m_cf, m_cd, m_cr]) (fun ls hl => ?_)
    refine lv_lload hx hb dX11_line_130 (lv_at hl 9 rfl) ?_
    refine lv_lload hx hb dX11_line_132 (lv_at hl 4 rfl) ?_
    refine lv_lload hx hb dX11_line_134 (lv_at hl 6 rfl) ?_
    refine lv_lmul hx hb dX11_line_136 ?_
    refine lv_lload hx hb dX11_line_137 (lv_at hl 5 rfl) ?_
    refine lv_lmul hx hb dX11_line_139 ?_
    refine lv_ladd hx hb dX11_line_140 ?_
    refine lv_topl (fun v18 hv18 => ?_)
    have hF := rt_t hv18 hF
    refine lv_lstore (lv' := [(10, .long v18), (8, .long v17), (6, .long v16), (4, .long v15), (2, .long v14), (17, .long v13.toInt64), (15, .long v11.toInt64), (13, .long v9.toInt64), (0, .ref x0), (1, .int x1), (12, .int x12)]) hx hb dX11_line_141 hl (by decide) (by first | rfl | simp [m_cat, m_ci, m_cl, m_cf, m_cd, m_cr]) (fun ls hl => ?_)
    refine lv_iinc (v := (x12 + (1 : Int32))) (lv' := [(12, .int (x12 + (1 : Int32))), (10, .long v18), (8, .long v17), (6, .long v16), (4, .long v15), (2, .long v14), (17, .long v13.toInt64), (15, .long v11.toInt64), (13, .long v9.toInt64), (0, .ref x0), (1, .int x1)]) hx hb dX11_line_143 hl (k := 10) rfl (by first | rfl | (congr 1)) (by decide) (by first | rfl | simp [m_cat, m_ci, m_cl, m_cf, m_cd, m_cr]) (fun ls hl => ?_)
    refine lv_goto (tgt := 36) hx hb dX11_line_146 (by decide) ?_
    exact hrec _ _ _ _ _ _ _ _ _ _ _ _ (lv_sub hl [9, 10, 5, 4, 3, 2, 1, 0] rfl) hH hF
theorem w_X11_line_36 {l : Launch} {D : va_G} {cy : Nat → ClassId} {z : Nat} {p : Program} {e : Env} {R : Room} {s : State} {m : MethodId} {args : Array Value} {below : List Frame} {meth : Method} {c : Code} {ws0 wsf : WS} {rr : Int32} (cx : Cx D cy z RX11 cX11_line 19 (some .int) 2 67 "line" p R s m meth c) (hE : AC ws0 wsf R.cells R.slots) (x0 : Nat) (x1 : Int32) (k : Int64 → Int64 → Int64 → Int64 → Int64 → St (Int32)) (hkk : ∀ (x2 : Int64) (x4 : Int64) (x6 : Int64) (x8 : Int64) (x10 : Int64), At_ l D cy z p e R s m args below meth c ws0 wsf vI rr 19 149 [(0, .ref x0), (2, .long x2), (4, .long x4), (6, .long x6), (8, .long x8), (10, .long x10)] [] (k x2 x4 x6 x8 x10)) : ∀ (n : Nat) (x2 : Int64) (x4 : Int64) (x6 : Int64) (x8 : Int64) (x10 : Int64) (x12 : Int32), At_ l D cy z p e R s m args below meth c ws0 wsf vI rr 19 36 [(0, .ref x0), (1, .int x1), (2, .long x2), (4, .long x4), (6, .long x6), (8, .long x8), (10, .long x10), (12, .int x12)] [] (l_X11_line_36 x0 x1 k n x2 x4 x6 x8 x10 x12) := by
  intro n
  induction n with
  | zero =>
    intro x2 x4 x6 x8 x10 x12 ws H locs cells slots ls hl hH hF
    exact fl_t hF
  | succ n ih =>
    intro x2 x4 x6 x8 x10 x12
    exact wb_X11_line_36 cx hE x0 x1 (l_X11_line_36 x0 x1 k n) k ih hkk x2 x4 x6 x8 x10 x12
set_option maxHeartbeats 4000000 in
set_option maxRecDepth 100000 in
theorem wb_X11_line_182 {l : Launch} {D : va_G} {cy : Nat → ClassId} {z : Nat} {p : Program} {e : Env} {R : Room} {s : State} {m : MethodId} {args : Array Value} {below : List Frame} {meth : Method} {c : Code} {ws0 wsf : WS} {rr : Int32} (cx : Cx D cy z RX11 cX11_line 19 (some .int) 2 67 "line" p R s m meth c) (hE : AC ws0 wsf R.cells R.slots) (x0 : Nat) (x2 : Int64) (x4 : Int64) (x6 : Int64) (x8 : Int64) (x10 : Int64) (x12 : Int64) (x14 : Int32) (rec : Int32 → St (Int32)) (k : St (Int32)) (hrec : ∀ (x15 : Int32), At_ l D cy z p e R s m args below meth c ws0 wsf vI rr 19 182 [(0, .ref x0), (2, .long x2), (4, .long x4), (6, .long x6), (8, .long x8), (10, .long x10), (12, .long x12), (14, .int x14), (15, .int x15)] [] (rec x15)) (hkk : At_ l D cy z p e R s m args below meth c ws0 wsf vI rr 19 244 [(14, .int x14)] [] (k)) (x15 : Int32) : At_ l D cy z p e R s m args below meth c ws0 wsf vI rr 19 182 [(0, .ref x0), (2, .long x2), (4, .long x4), (6, .long x6), (8, .long x8), (10, .long x10), (12, .long x12), (14, .int x14), (15, .int x15)] [] (b_X11_line_182 x0 x2 x4 x6 x8 x10 x12 x14 rec k x15) := by
  intro ws H locs cells slots ls hl hH hF
  obtain ⟨hx, hb, hr, hml, hown, hk, hz, hlocks, hnm, hfr, hlo⟩ := id cx
  unfold b_X11_line_182 at hF
  refine lv_iload hx hb dX11_line_182 (lv_at hl 8 rfl) ?_
  refine lv_sipush (v := (4096)) hx hb dX11_line_184 (by decide) ?_
  refine lv_icmp_ge (tgt := 244) hx hb dX11_line_187 (by decide) (fun hc27 => ?_) (fun hc27 => ?_)
  · have hF := bq_t hc27 hF
    exact hkk _ _ _ _ _ _ (lv_sub hl [7] rfl) hH hF
  · have hF := bq_f hc27 hF
    refine lv_aload_n hx hb dX11_line_190 rfl (lv_at hl 0 rfl) ?_
    refine m_gR hx hb hown hk hH hF fk_RX11_value lk_RX11_29 dX11_line_191 (fun v29 hF => ?_)
    refine lv_sipush (v := (4096)) hx hb dX11_line_194 (by decide) ?_
    refine lv_iload hx hb dX11_line_197 (lv_at hl 7 rfl) ?_
    refine lv_imul hx hb dX11_line_199 ?_
    refine lv_iload hx hb dX11_line_200 (lv_at hl 8 rfl) ?_
    refine lv_iadd hx hb dX11_line_202 ?_
    refine lv_lload hx hb dX11_line_203 (lv_at hl 4 rfl) ?_
    refine lv_lload hx hb dX11_line_205 (lv_at hl 3 rfl) ?_
    refine lv_lmul hx hb dX11_line_207 ?_
    refine lv_lload hx hb dX11_line_208 (lv_at hl 2 rfl) ?_
    refine lv_lload hx hb dX11_line_210 (lv_at hl 5 rfl) ?_
    refine lv_lmul hx hb dX11_line_212 ?_
    refine lv_lsub hx hb dX11_line_213 ?_
    refine lv_iload hx hb dX11_line_214 (lv_at hl 8 rfl) ?_
    refine lv_i2l hx hb dX11_line_216 rfl ?_
    refine lv_lload_n hx hb dX11_line_217 rfl (lv_at hl 1 rfl) ?_
    refine lv_lload hx hb dX11_line_218 (lv_at hl 5 rfl) ?_
    refine lv_lmul hx hb dX11_line_220 ?_
    refine lv_lload hx hb dX11_line_221 (lv_at hl 2 rfl) ?_
    refine lv_lload hx hb dX11_line_223 (lv_at hl 3 rfl) ?_
    refine lv_lmul hx hb dX11_line_225 ?_
    refine lv_lsub hx hb dX11_line_226 ?_
    refine lv_lmul hx hb dX11_line_227 ?_
    refine lv_ladd hx hb dX11_line_228 ?_
    refine lv_lload hx hb dX11_line_229 (lv_at hl 6 rfl) ?_
    refine m_cSL hx hb hml hown hk hH hE.le hz (As := [.long (((x8 * x6) - (x4 * x10)) + (x15.toInt64 * ((x2 * x10) - (x4 * x6)))), .long x12]) (rest := [.int (((4096 : Int32) * x14) + x15), va_rf v29]) (t_X11_rounded l D cy z (((x8 * x6) - (x4 * x10)) + (x15.toInt64 * ((x2 * x10) - (x4 * x6)))) x12) hF wd_865 wd_866 wd_38 wd_867 yn_X11_rounded ⟨Nat.le_trans (by decide) hfr, Nat.le_trans (by decide) hlo⟩ hl.1 (by first | exact Nat.le_of_ble_eq_true rfl | simp [m_cat, m_ci, m_cl, m_cf, m_cd, m_cr]) rfl dX11_line_231 (fun c30 ws H locs cells slots hH hF => ?_)
    refine m_cSI hx hb hml hown hk hH hE.le hz (As := [.long c30]) (rest := [.int (((4096 : Int32) * x14) + x15), va_rf v29]) (t_X11_bounded l D cy z c30) hF wd_872 wd_873 wd_38 wd_874 yn_X11_bounded ⟨Nat.le_trans (by decide) hfr, Nat.le_trans (by decide) hlo⟩ hl.1 (by first | exact Nat.le_of_ble_eq_true rfl | simp [m_cat, m_ci, m_cl, m_cf, m_cd, m_cr]) rfl dX11_line_234 (fun c31 ws H locs cells slots hH hF => ?_)
    refine m_sI0 hx hb hk hH hF dX11_line_237 (fun ws H locs hH hF => ?_)
    refine lv_iinc (v := (x15 + (1 : Int32))) (lv' := [(15, .int (x15 + (1 : Int32))), (0, .ref x0), (2, .long x2), (4, .long x4), (6, .long x6), (8, .long x8), (10, .long x10), (12, .long x12), (14, .int x14)]) hx hb dX11_line_238 hl (k := 8) rfl (by first | rfl | (congr 1)) (by decide) (by first | rfl | simp [m_cat, m_ci, m_cl, m_cf, m_cd, m_cr]) (fun ls hl => ?_)
    refine lv_goto (tgt := 182) hx hb dX11_line_241 (by decide) ?_
    exact hrec _ _ _ _ _ _ _ (lv_sub hl [1, 2, 3, 4, 5, 6, 7, 8, 0] rfl) hH hF
theorem w_X11_line_182 {l : Launch} {D : va_G} {cy : Nat → ClassId} {z : Nat} {p : Program} {e : Env} {R : Room} {s : State} {m : MethodId} {args : Array Value} {below : List Frame} {meth : Method} {c : Code} {ws0 wsf : WS} {rr : Int32} (cx : Cx D cy z RX11 cX11_line 19 (some .int) 2 67 "line" p R s m meth c) (hE : AC ws0 wsf R.cells R.slots) (x0 : Nat) (x2 : Int64) (x4 : Int64) (x6 : Int64) (x8 : Int64) (x10 : Int64) (x12 : Int64) (x14 : Int32) (k : St (Int32)) (hkk : At_ l D cy z p e R s m args below meth c ws0 wsf vI rr 19 244 [(14, .int x14)] [] (k)) : ∀ (n : Nat) (x15 : Int32), At_ l D cy z p e R s m args below meth c ws0 wsf vI rr 19 182 [(0, .ref x0), (2, .long x2), (4, .long x4), (6, .long x6), (8, .long x8), (10, .long x10), (12, .long x12), (14, .int x14), (15, .int x15)] [] (l_X11_line_182 x0 x2 x4 x6 x8 x10 x12 x14 k n x15) := by
  intro n
  induction n with
  | zero =>
    intro x15 ws H locs cells slots ls hl hH hF
    exact fl_t hF
  | succ n ih =>
    intro x15
    exact wb_X11_line_182 cx hE x0 x2 x4 x6 x8 x10 x12 x14 (l_X11_line_182 x0 x2 x4 x6 x8 x10 x12 x14 k n) k ih hkk x15
set_option maxHeartbeats 4000000 in
set_option maxRecDepth 100000 in
theorem t_X11_line (l : Launch) (D : va_G) (cy : Nat → ClassId) (z : Nat) (o : Nat) (x1 : Int32) : MT l D cy z yX11_line cX11_line 19 (some .int) 2 67 (F_X11_line o x1) vI [.ref o, .int x1] := by
  refine m_enter [(0, .ref o), (1, .int x1)] (by decide) (by first | rfl | simp [lv_args, m_cat, m_ci, m_cl, m_cf, m_cd, m_cr]) (by first | exact Nat.le_of_ble_eq_true rfl | simp [lg_sl, m_cat, m_ci, m_cl, m_cf, m_cd, m_cr]) ?_
  intro p e R s m args below meth c ws0 wsf rr cx hE ws H locs cells slots ls hl hH hF
  obtain ⟨hx, hb, hr, hml, hown, hk, hz, hlocks, hnm, hfr, hlo⟩ := id cx
  unfold F_X11_line at hF
  refine lv_iload_n hx hb dX11_line_0 rfl (lv_at hl 1 rfl) ?_
  refine m_cSI hx hb hml hown hk hH hE.le hz (As := [.int x1]) (rest := []) (t_X11_isSensor l D cy z x1) hF wd_843 wd_844 wd_38 wd_845 yn_X11_isSensor ⟨Nat.le_trans (by decide) hfr, Nat.le_trans (by decide) hlo⟩ hl.1 (by first | exact Nat.le_of_ble_eq_true rfl | simp [m_cat, m_ci, m_cl, m_cf, m_cd, m_cr]) rfl dX11_line_1 (fun c1 ws H locs cells slots hH hF => ?_)
  refine lv_if_eq (tgt := 16) hx hb dX11_line_4 (by decide) (fun hc1 => ?_) (fun hc1 => ?_)
  · have hF := bq_t hc1 hF
    refine lv_bipush (v := (-2)) hx hb dX11_line_16 (by decide) ?_
    exact m_iret hx hb hr hlocks hH hE hF rfl dX11_line_18
  · have hF := bq_f hc1 hF
    refine lv_aload_n hx hb dX11_line_7 rfl (lv_at hl 0 rfl) ?_
    refine m_gI hx hb hown hk hH hF fk_RX11_curves lk_RX11_85 dX11_line_8 (fun v3 hF => ?_)
    refine lv_bipush (v := (60)) hx hb dX11_line_11 (by decide) ?_
    refine lv_icmp_ne (tgt := 19) hx hb dX11_line_13 (by decide) (fun hc3 => ?_) (fun hc3 => ?_)
    · have hF := bq_f hc3 hF
      refine lv_lconst (v := (0)) hx hb dX11_line_19 (by decide) ?_
      refine lv_lstore_n (lv' := [(2, .long (0 : Int64)), (0, .ref o), (1, .int x1)]) hx hb dX11_line_20 rfl hl (by decide) (by first | rfl | simp [m_cat, m_ci, m_cl, m_cf, m_cd, m_cr]) (fun ls hl => ?_)
      refine lv_lconst (v := (0)) hx hb dX11_line_21 (by decide) ?_
      refine lv_lstore (lv' := [(4, .long (0 : Int64)), (2, .long (0 : Int64)), (0, .ref o), (1, .int x1)]) hx hb dX11_line_22 hl (by decide) (by first | rfl | simp [m_cat, m_ci, m_cl, m_cf, m_cd, m_cr]) (fun ls hl => ?_)
      refine lv_lconst (v := (0)) hx hb dX11_line_24 (by decide) ?_
      refine lv_lstore (lv' := [(6, .long (0 : Int64)), (4, .long (0 : Int64)), (2, .long (0 : Int64)), (0, .ref o), (1, .int x1)]) hx hb dX11_line_25 hl (by decide) (by first | rfl | simp [m_cat, m_ci, m_cl, m_cf, m_cd, m_cr]) (fun ls hl => ?_)
      refine lv_lconst (v := (0)) hx hb dX11_line_27 (by decide) ?_
      refine lv_lstore (lv' := [(8, .long (0 : Int64)), (6, .long (0 : Int64)), (4, .long (0 : Int64)), (2, .long (0 : Int64)), (0, .ref o), (1, .int x1)]) hx hb dX11_line_28 hl (by decide) (by first | rfl | simp [m_cat, m_ci, m_cl, m_cf, m_cd, m_cr]) (fun ls hl => ?_)
      refine lv_lconst (v := (0)) hx hb dX11_line_30 (by decide) ?_
      refine lv_lstore (lv' := [(10, .long (0 : Int64)), (8, .long (0 : Int64)), (6, .long (0 : Int64)), (4, .long (0 : Int64)), (2, .long (0 : Int64)), (0, .ref o), (1, .int x1)]) hx hb dX11_line_31 hl (by decide) (by first | rfl | simp [m_cat, m_ci, m_cl, m_cf, m_cd, m_cr]) (fun ls hl => ?_)
      refine lv_iconst (v := (0)) hx hb dX11_line_33 (by decide) ?_
      refine lv_istore (lv' := [(12, .int (0 : Int32)), (10, .long (0 : Int64)), (8, .long (0 : Int64)), (6, .long (0 : Int64)), (4, .long (0 : Int64)), (2, .long (0 : Int64)), (0, .ref o), (1, .int x1)]) hx hb dX11_line_34 hl (by decide) (by first | rfl | simp [m_cat, m_ci, m_cl, m_cf, m_cd, m_cr]) (fun ls hl => ?_)
      refine w_X11_line_36 cx hE o x1 _ (fun e19 e20 e21 e22 e23 ws H locs cells slots ls hl hH hF => ?_) _ _ _ _ _ _ _ _ _ _ _ _ _ (lv_sub hl [6, 7, 5, 4, 3, 2, 1, 0] rfl) hH hF
      refine lv_lload_n hx hb dX11_line_149 rfl (lv_at hl 1 rfl) ?_
      refine lv_lload hx hb dX11_line_150 (lv_at hl 4 rfl) ?_
      refine lv_lmul hx hb dX11_line_152 ?_
      refine lv_lload hx hb dX11_line_153 (lv_at hl 2 rfl) ?_
      refine lv_lload hx hb dX11_line_155 (lv_at hl 2 rfl) ?_
      refine lv_lmul hx hb dX11_line_157 ?_
      refine lv_lsub hx hb dX11_line_158 ?_
      refine lv_topl (fun v24 hv24 => ?_)
      have hF := rt_t hv24 hF
      refine lv_lstore (lv' := [(12, .long v24), (0, .ref o), (2, .long e19), (4, .long e20), (6, .long e21), (8, .long e22), (10, .long e23)]) hx hb dX11_line_159 hl (by decide) (by first | rfl | simp [m_cat, m_ci, m_cl, m_cf, m_cd, m_cr]) (fun ls hl => ?_)
      refine lv_lload hx hb dX11_line_161 (lv_at hl 0 rfl) ?_
      refine lv_lconst (v := (0)) hx hb dX11_line_163 (by decide) ?_
      refine W.lcmp hx hb dX11_line_164 ?_
      refine lv_if_ne (tgt := 171) hx hb dX11_line_165 (by decide) (fun hc24 => ?_) (fun hc24 => ?_)
      · have hF := bq_f hc24 hF
        refine lv_aload_n hx hb dX11_line_171 rfl (lv_at hl 1 rfl) ?_
        refine lv_iconst (v := (0)) hx hb dX11_line_172 (by decide) ?_
        refine lv_iconst (v := (1)) hx hb dX11_line_173 (by decide) ?_
        refine m_cVI hx hb hml hown hk hH hE.le hz (F := fun q27 => F_X11_newCurve q27.1 (0 : Int32) (1 : Int32)) (C := RX11) (T := TX11) (N := 22) rfl (As := [.int (0 : Int32), .int (1 : Int32)]) (rest := []) (fun o => t_X11_newCurve l D cy z o (0 : Int32) (1 : Int32)) hF wd_861 wd_863 wd_38 wd_864 wd_17 yn_X11_newCurve ⟨Nat.le_trans (by decide) hfr, Nat.le_trans (by decide) hlo⟩ hl.1 (by first | exact Nat.le_of_ble_eq_true rfl | simp [m_cat, m_ci, m_cl, m_cf, m_cd, m_cr]) rfl dX11_line_174 (fun c26 ws H locs cells slots hH hF => ?_)
        refine lv_istore (lv' := [(14, .int c26), (12, .long v24), (0, .ref o), (2, .long e19), (4, .long e20), (6, .long e21), (8, .long e22), (10, .long e23)]) hx hb dX11_line_177 hl (by decide) (by first | rfl | simp [m_cat, m_ci, m_cl, m_cf, m_cd, m_cr]) (fun ls hl => ?_)
        refine lv_iconst (v := (0)) hx hb dX11_line_179 (by decide) ?_
        refine lv_istore (lv' := [(15, .int (0 : Int32)), (14, .int c26), (12, .long v24), (0, .ref o), (2, .long e19), (4, .long e20), (6, .long e21), (8, .long e22), (10, .long e23)]) hx hb dX11_line_180 hl (by decide) (by first | rfl | simp [m_cat, m_ci, m_cl, m_cf, m_cd, m_cr]) (fun ls hl => ?_)
        refine w_X11_line_182 cx hE o e19 e20 e21 e22 e23 v24 c26 _ (fun ws H locs cells slots ls hl hH hF => ?_) _ _ _ _ _ _ _ _ (lv_sub hl [3, 4, 5, 6, 7, 8, 2, 1, 0] rfl) hH hF
        refine lv_iload hx hb dX11_line_244 (lv_at hl 0 rfl) ?_
        exact m_iret hx hb hr hlocks hH hE hF rfl dX11_line_246
      · have hF := bq_t hc24 hF
        refine lv_bipush (v := (-3)) hx hb dX11_line_168 (by decide) ?_
        exact m_iret hx hb hr hlocks hH hE hF rfl dX11_line_170
    · have hF := bq_t hc3 hF
      refine lv_bipush (v := (-2)) hx hb dX11_line_16 (by decide) ?_
      exact m_iret hx hb hr hlocks hH hE hF rfl dX11_line_18

def j_X11_knot_29 (x0 : Nat) (x1 : Int32) (x2 : Int32) : St (Int32) :=
  br (x2 < (-10000 : Int32)) (rt (-2 : Int32)) (br ((10000 : Int32) < x2) (rt (-2 : Int32)) (bd (gI [10] 8 (some x0)) fun v7 => br (v7 = (32 : Int32)) (rt (-2 : Int32)) (bd (gR [10] 9 (some x0)) fun v9 => bd (gI [10] 8 (some x0)) fun v10 => bd (sI 0 v9 v10 x1) fun _ => bd (gR [10] 10 (some x0)) fun v11 => bd (gI [10] 8 (some x0)) fun v12 => bd (sI 0 v11 v12 x2) fun _ => bd (gI [10] 8 (some x0)) fun v13 => bd (pV [10] 8 (some x0) (.int (v13 + (1 : Int32)))) fun _ => bd (gI [10] 8 (some x0)) fun v14 => rt v14)))
def F_X11_knot (o : Nat) (x1 : Int32) (x2 : Int32) : St (Int32) :=
  bd (F_X11_isCount x1) fun c1 => br (c1 = 0) (rt (-2 : Int32)) (bd (gI [10] 8 (some o)) fun v3 => br (v3 ≤ 0) (j_X11_knot_29 o x1 x2) (bd (gR [10] 9 (some o)) fun v15 => bd (gI [10] 8 (some o)) fun v16 => bd (aI 0 v15 (v16 - (1 : Int32))) fun v17 => br (x1 ≤ v17) (rt (-2 : Int32)) (j_X11_knot_29 o x1 x2)))
set_option maxHeartbeats 4000000 in
set_option maxRecDepth 100000 in
theorem w_X11_knot_29 {l : Launch} {D : va_G} {cy : Nat → ClassId} {z : Nat} {p : Program} {e : Env} {R : Room} {s : State} {m : MethodId} {args : Array Value} {below : List Frame} {meth : Method} {c : Code} {ws0 wsf : WS} {rr : Int32} (cx : Cx D cy z RX11 cX11_knot 3 (some .int) 1 40 "knot" p R s m meth c) (hE : AC ws0 wsf R.cells R.slots) (x0 : Nat) (x1 : Int32) (x2 : Int32) : At_ l D cy z p e R s m args below meth c ws0 wsf vI rr 3 29 [(0, .ref x0), (1, .int x1), (2, .int x2)] [] (j_X11_knot_29 x0 x1 x2) := by
  intro ws H locs cells slots ls hl hH hF
  obtain ⟨hx, hb, hr, hml, hown, hk, hz, hlocks, hnm, hfr, hlo⟩ := id cx
  unfold j_X11_knot_29 at hF
  refine lv_iload_n hx hb dX11_knot_29 rfl (lv_at hl 2 rfl) ?_
  refine lv_sipush (v := (-10000)) hx hb dX11_knot_30 (by decide) ?_
  refine lv_icmp_lt (tgt := 52) hx hb dX11_knot_33 (by decide) (fun hc4 => ?_) (fun hc4 => ?_)
  · have hF := bq_t hc4 hF
    refine lv_bipush (v := (-2)) hx hb dX11_knot_52 (by decide) ?_
    exact m_iret hx hb hr hlocks hH hE hF rfl dX11_knot_54
  · have hF := bq_f hc4 hF
    refine lv_iload_n hx hb dX11_knot_36 rfl (lv_at hl 2 rfl) ?_
    refine lv_sipush (v := (10000)) hx hb dX11_knot_37 (by decide) ?_
    refine lv_icmp_gt (tgt := 52) hx hb dX11_knot_40 (by decide) (fun hc5 => ?_) (fun hc5 => ?_)
    · have hF := bq_t hc5 hF
      refine lv_bipush (v := (-2)) hx hb dX11_knot_52 (by decide) ?_
      exact m_iret hx hb hr hlocks hH hE hF rfl dX11_knot_54
    · have hF := bq_f hc5 hF
      refine lv_aload_n hx hb dX11_knot_43 rfl (lv_at hl 0 rfl) ?_
      refine m_gI hx hb hown hk hH hF fk_RX11_knots lk_RX11_111 dX11_knot_44 (fun v7 hF => ?_)
      refine lv_bipush (v := (32)) hx hb dX11_knot_47 (by decide) ?_
      refine lv_icmp_ne (tgt := 55) hx hb dX11_knot_49 (by decide) (fun hc7 => ?_) (fun hc7 => ?_)
      · have hF := bq_f hc7 hF
        refine lv_aload_n hx hb dX11_knot_55 rfl (lv_at hl 0 rfl) ?_
        refine m_gR hx hb hown hk hH hF fk_RX11_knotCount lk_RX11_32 dX11_knot_56 (fun v9 hF => ?_)
        refine lv_aload_n hx hb dX11_knot_59 rfl (lv_at hl 0 rfl) ?_
        refine m_gI hx hb hown hk hH hF fk_RX11_knots lk_RX11_111 dX11_knot_60 (fun v10 hF => ?_)
        refine lv_iload_n hx hb dX11_knot_63 rfl (lv_at hl 1 rfl) ?_
        refine m_sI0 hx hb hk hH hF dX11_knot_64 (fun ws H locs hH hF => ?_)
        refine lv_aload_n hx hb dX11_knot_65 rfl (lv_at hl 0 rfl) ?_
        refine m_gR hx hb hown hk hH hF fk_RX11_knotValue lk_RX11_35 dX11_knot_66 (fun v11 hF => ?_)
        refine lv_aload_n hx hb dX11_knot_69 rfl (lv_at hl 0 rfl) ?_
        refine m_gI hx hb hown hk hH hF fk_RX11_knots lk_RX11_111 dX11_knot_70 (fun v12 hF => ?_)
        refine lv_iload_n hx hb dX11_knot_73 rfl (lv_at hl 2 rfl) ?_
        refine m_sI0 hx hb hk hH hF dX11_knot_74 (fun ws H locs hH hF => ?_)
        refine lv_aload_n hx hb dX11_knot_75 rfl (lv_at hl 0 rfl) ?_
        refine lv_dup hx hb dX11_knot_76 rfl ?_
        refine m_gI hx hb hown hk hH hF fk_RX11_knots lk_RX11_111 dX11_knot_77 (fun v13 hF => ?_)
        refine lv_iconst (v := (1)) hx hb dX11_knot_80 (by decide) ?_
        refine lv_iadd hx hb dX11_knot_81 ?_
        refine m_pV hx hb hown hk hH hF fk_RX11_knots lk_RX11_111 pd_9 rfl rfl dX11_knot_82 (fun ws H locs hH hF => ?_)
        refine lv_aload_n hx hb dX11_knot_85 rfl (lv_at hl 0 rfl) ?_
        refine m_gI hx hb hown hk hH hF fk_RX11_knots lk_RX11_111 dX11_knot_86 (fun v14 hF => ?_)
        exact m_iret hx hb hr hlocks hH hE hF rfl dX11_knot_89
      · have hF := bq_t hc7 hF
        refine lv_bipush (v := (-2)) hx hb dX11_knot_52 (by decide) ?_
        exact m_iret hx hb hr hlocks hH hE hF rfl dX11_knot_54
set_option maxHeartbeats 4000000 in
set_option maxRecDepth 100000 in
theorem t_X11_knot (l : Launch) (D : va_G) (cy : Nat → ClassId) (z : Nat) (o : Nat) (x1 : Int32) (x2 : Int32) : MT l D cy z yX11_knot cX11_knot 3 (some .int) 1 40 (F_X11_knot o x1 x2) vI [.ref o, .int x1, .int x2] := by
  refine m_enter [(0, .ref o), (1, .int x1), (2, .int x2)] (by decide) (by first | rfl | simp [lv_args, m_cat, m_ci, m_cl, m_cf, m_cd, m_cr]) (by first | exact Nat.le_of_ble_eq_true rfl | simp [lg_sl, m_cat, m_ci, m_cl, m_cf, m_cd, m_cr]) ?_
  intro p e R s m args below meth c ws0 wsf rr cx hE ws H locs cells slots ls hl hH hF
  obtain ⟨hx, hb, hr, hml, hown, hk, hz, hlocks, hnm, hfr, hlo⟩ := id cx
  unfold F_X11_knot at hF
  refine lv_iload_n hx hb dX11_knot_0 rfl (lv_at hl 1 rfl) ?_
  refine m_cSI hx hb hml hown hk hH hE.le hz (As := [.int x1]) (rest := []) (t_X11_isCount l D cy z x1) hF wd_846 wd_847 wd_38 wd_848 yn_X11_isCount ⟨Nat.le_trans (by decide) hfr, Nat.le_trans (by decide) hlo⟩ hl.1 (by first | exact Nat.le_of_ble_eq_true rfl | simp [m_cat, m_ci, m_cl, m_cf, m_cd, m_cr]) rfl dX11_knot_1 (fun c1 ws H locs cells slots hH hF => ?_)
  refine lv_if_eq (tgt := 52) hx hb dX11_knot_4 (by decide) (fun hc1 => ?_) (fun hc1 => ?_)
  · have hF := bq_t hc1 hF
    refine lv_bipush (v := (-2)) hx hb dX11_knot_52 (by decide) ?_
    exact m_iret hx hb hr hlocks hH hE hF rfl dX11_knot_54
  · have hF := bq_f hc1 hF
    refine lv_aload_n hx hb dX11_knot_7 rfl (lv_at hl 0 rfl) ?_
    refine m_gI hx hb hown hk hH hF fk_RX11_knots lk_RX11_111 dX11_knot_8 (fun v3 hF => ?_)
    refine lv_if_le (tgt := 29) hx hb dX11_knot_11 (by decide) (fun hc3 => ?_) (fun hc3 => ?_)
    · have hF := bq_t hc3 hF
      exact w_X11_knot_29 cx hE o x1 x2 _ _ _ _ _ _ (lv_sub hl [0, 1, 2] rfl) hH hF
    · have hF := bq_f hc3 hF
      refine lv_iload_n hx hb dX11_knot_14 rfl (lv_at hl 1 rfl) ?_
      refine lv_aload_n hx hb dX11_knot_15 rfl (lv_at hl 0 rfl) ?_
      refine m_gR hx hb hown hk hH hF fk_RX11_knotCount lk_RX11_32 dX11_knot_16 (fun v15 hF => ?_)
      refine lv_aload_n hx hb dX11_knot_19 rfl (lv_at hl 0 rfl) ?_
      refine m_gI hx hb hown hk hH hF fk_RX11_knots lk_RX11_111 dX11_knot_20 (fun v16 hF => ?_)
      refine lv_iconst (v := (1)) hx hb dX11_knot_23 (by decide) ?_
      refine lv_isub hx hb dX11_knot_24 ?_
      refine m_aI0 hx hb hk hH hF dX11_knot_25 (fun v17 hF => ?_)
      refine lv_icmp_le (tgt := 52) hx hb dX11_knot_26 (by decide) (fun hc17 => ?_) (fun hc17 => ?_)
      · have hF := bq_t hc17 hF
        refine lv_bipush (v := (-2)) hx hb dX11_knot_52 (by decide) ?_
        exact m_iret hx hb hr hlocks hH hE hF rfl dX11_knot_54
      · have hF := bq_f hc17 hF
        exact w_X11_knot_29 cx hE o x1 x2 _ _ _ _ _ _ (lv_sub hl [0, 1, 2] rfl) hH hF

def F_X11_hush (o : Nat) : St (Int32) :=
  bd (gI [10] 8 (some o)) fun v1 => bd (pV [10] 8 (some o) (.int (0 : Int32))) fun _ => rt v1
set_option maxHeartbeats 4000000 in
set_option maxRecDepth 100000 in
theorem t_X11_hush (l : Launch) (D : va_G) (cy : Nat → ClassId) (z : Nat) (o : Nat) : MT l D cy z yX11_hush cX11_hush 2 (some .int) 0 0 (F_X11_hush o) vI [.ref o] := by
  refine m_enter [(0, .ref o)] (by decide) (by first | rfl | simp [lv_args, m_cat, m_ci, m_cl, m_cf, m_cd, m_cr]) (by first | exact Nat.le_of_ble_eq_true rfl | simp [lg_sl, m_cat, m_ci, m_cl, m_cf, m_cd, m_cr]) ?_
  intro p e R s m args below meth c ws0 wsf rr cx hE ws H locs cells slots ls hl hH hF
  obtain ⟨hx, hb, hr, hml, hown, hk, hz, hlocks, hnm, hfr, hlo⟩ := id cx
  unfold F_X11_hush at hF
  refine lv_aload_n hx hb dX11_hush_0 rfl (lv_at hl 0 rfl) ?_
  refine m_gI hx hb hown hk hH hF fk_RX11_knots lk_RX11_111 dX11_hush_1 (fun v1 hF => ?_)
  refine lv_istore_n (lv' := [(1, .int v1), (0, .ref o)]) hx hb dX11_hush_4 rfl hl (by decide) (by first | rfl | simp [m_cat, m_ci, m_cl, m_cf, m_cd, m_cr]) (fun ls hl => ?_)
  refine lv_aload_n hx hb dX11_hush_5 rfl (lv_at hl 1 rfl) ?_
  refine lv_iconst (v := (0)) hx hb dX11_hush_6 (by decide) ?_
  refine m_pV hx hb hown hk hH hF fk_RX11_knots lk_RX11_111 pd_9 rfl rfl dX11_hush_7 (fun ws H locs hH hF => ?_)
  refine lv_iload_n hx hb dX11_hush_10 rfl (lv_at hl 0 rfl) ?_
  exact m_iret hx hb hr hlocks hH hE hF rfl dX11_hush_11

def b_X11_through_46 (x0 : Nat) (x1 : Int32) (rec : Int32 → St (Int32)) (k : Int32 → St (Int32)) (x2 : Int32) : St (Int32) :=
  bd (gR [10] 9 (some x0)) fun v8 => bd (aI 0 v8 (x2 + (1 : Int32))) fun v9 => br (x1 ≤ v9) (k x2) (rec (x2 + (1 : Int32)))
def l_X11_through_46 (x0 : Nat) (x1 : Int32) (k : Int32 → St (Int32)) : Nat → Int32 → St (Int32)
  | 0 => fun _ => fl
  | n + 1 => fun x2 => b_X11_through_46 x0 x1 (l_X11_through_46 x0 x1 k n) k x2
def F_X11_through (o : Nat) (x1 : Int32) : St (Int32) :=
  bd (gR [10] 9 (some o)) fun v1 => bd (aI 0 v1 (0 : Int32)) fun v2 => br (v2 < x1) (bd (gR [10] 9 (some o)) fun v4 => bd (gI [10] 8 (some o)) fun v5 => bd (aI 0 v4 (v5 - (1 : Int32))) fun v6 => br (x1 < v6) (l_X11_through_46 o x1 (fun (e11 : Int32) => bd (gR [10] 9 (some o)) fun v12 => bd (aI 0 v12 (e11 + (1 : Int32))) fun v13 => bd (gR [10] 9 (some o)) fun v14 => bd (aI 0 v14 e11) fun v15 => bd (rt ((v13 - v15).toInt64)) fun v16 => bd (gR [10] 10 (some o)) fun v17 => bd (aI 0 v17 e11) fun v18 => bd (gR [10] 10 (some o)) fun v19 => bd (aI 0 v19 (e11 + (1 : Int32))) fun v20 => bd (gR [10] 10 (some o)) fun v21 => bd (aI 0 v21 e11) fun v22 => bd (gR [10] 9 (some o)) fun v23 => bd (aI 0 v23 e11) fun v24 => bd (F_X11_rounded ((v18.toInt64 * v16) + ((v20 - v22).toInt64 * (x1 - v24).toInt64)) v16) fun c25 => rt c25.toInt32) FU (0 : Int32)) (bd (gR [10] 10 (some o)) fun v26 => bd (gI [10] 8 (some o)) fun v27 => bd (aI 0 v26 (v27 - (1 : Int32))) fun v28 => rt v28)) (bd (gR [10] 10 (some o)) fun v29 => bd (aI 0 v29 (0 : Int32)) fun v30 => rt v30)
set_option maxHeartbeats 4000000 in
set_option maxRecDepth 100000 in
theorem wb_X11_through_46 {l : Launch} {D : va_G} {cy : Nat → ClassId} {z : Nat} {p : Program} {e : Env} {R : Room} {s : State} {m : MethodId} {args : Array Value} {below : List Frame} {meth : Method} {c : Code} {ws0 wsf : WS} {rr : Int32} (cx : Cx D cy z RX11 cX11_through 5 (some .int) 2 67 "through" p R s m meth c) (hE : AC ws0 wsf R.cells R.slots) (x0 : Nat) (x1 : Int32) (rec : Int32 → St (Int32)) (k : Int32 → St (Int32)) (hrec : ∀ (x2 : Int32), At_ l D cy z p e R s m args below meth c ws0 wsf vI rr 5 46 [(0, .ref x0), (1, .int x1), (2, .int x2)] [] (rec x2)) (hkk : ∀ (x2 : Int32), At_ l D cy z p e R s m args below meth c ws0 wsf vI rr 5 64 [(0, .ref x0), (1, .int x1), (2, .int x2)] [] (k x2)) (x2 : Int32) : At_ l D cy z p e R s m args below meth c ws0 wsf vI rr 5 46 [(0, .ref x0), (1, .int x1), (2, .int x2)] [] (b_X11_through_46 x0 x1 rec k x2) := by
  intro ws H locs cells slots ls hl hH hF
  obtain ⟨hx, hb, hr, hml, hown, hk, hz, hlocks, hnm, hfr, hlo⟩ := id cx
  unfold b_X11_through_46 at hF
  refine lv_aload_n hx hb dX11_through_46 rfl (lv_at hl 0 rfl) ?_
  refine m_gR hx hb hown hk hH hF fk_RX11_knotCount lk_RX11_32 dX11_through_47 (fun v8 hF => ?_)
  refine lv_iload_n hx hb dX11_through_50 rfl (lv_at hl 2 rfl) ?_
  refine lv_iconst (v := (1)) hx hb dX11_through_51 (by decide) ?_
  refine lv_iadd hx hb dX11_through_52 ?_
  refine m_aI0 hx hb hk hH hF dX11_through_53 (fun v9 hF => ?_)
  refine lv_iload_n hx hb dX11_through_54 rfl (lv_at hl 1 rfl) ?_
  refine lv_icmp_ge (tgt := 64) hx hb dX11_through_55 (by decide) (fun hc9 => ?_) (fun hc9 => ?_)
  · have hF := bq_t hc9 hF
    exact hkk _ _ _ _ _ _ _ (lv_sub hl [0, 1, 2] rfl) hH hF
  · have hF := bq_f hc9 hF
    refine lv_iinc (v := (x2 + (1 : Int32))) (lv' := [(2, .int (x2 + (1 : Int32))), (0, .ref x0), (1, .int x1)]) hx hb dX11_through_58 hl (k := 2) rfl (by first | rfl | (congr 1)) (by decide) (by first | rfl | simp [m_cat, m_ci, m_cl, m_cf, m_cd, m_cr]) (fun ls hl => ?_)
    refine lv_goto (tgt := 46) hx hb dX11_through_61 (by decide) ?_
    exact hrec _ _ _ _ _ _ _ (lv_sub hl [1, 2, 0] rfl) hH hF
theorem w_X11_through_46 {l : Launch} {D : va_G} {cy : Nat → ClassId} {z : Nat} {p : Program} {e : Env} {R : Room} {s : State} {m : MethodId} {args : Array Value} {below : List Frame} {meth : Method} {c : Code} {ws0 wsf : WS} {rr : Int32} (cx : Cx D cy z RX11 cX11_through 5 (some .int) 2 67 "through" p R s m meth c) (hE : AC ws0 wsf R.cells R.slots) (x0 : Nat) (x1 : Int32) (k : Int32 → St (Int32)) (hkk : ∀ (x2 : Int32), At_ l D cy z p e R s m args below meth c ws0 wsf vI rr 5 64 [(0, .ref x0), (1, .int x1), (2, .int x2)] [] (k x2)) : ∀ (n : Nat) (x2 : Int32), At_ l D cy z p e R s m args below meth c ws0 wsf vI rr 5 46 [(0, .ref x0), (1, .int x1), (2, .int x2)] [] (l_X11_through_46 x0 x1 k n x2) := by
  intro n
  induction n with
  | zero =>
    intro x2 ws H locs cells slots ls hl hH hF
    exact fl_t hF
  | succ n ih =>
    intro x2
    exact wb_X11_through_46 cx hE x0 x1 (l_X11_through_46 x0 x1 k n) k ih hkk x2
set_option maxHeartbeats 4000000 in
set_option maxRecDepth 100000 in
theorem t_X11_through (l : Launch) (D : va_G) (cy : Nat → ClassId) (z : Nat) (o : Nat) (x1 : Int32) : MT l D cy z yX11_through cX11_through 5 (some .int) 2 67 (F_X11_through o x1) vI [.ref o, .int x1] := by
  refine m_enter [(0, .ref o), (1, .int x1)] (by decide) (by first | rfl | simp [lv_args, m_cat, m_ci, m_cl, m_cf, m_cd, m_cr]) (by first | exact Nat.le_of_ble_eq_true rfl | simp [lg_sl, m_cat, m_ci, m_cl, m_cf, m_cd, m_cr]) ?_
  intro p e R s m args below meth c ws0 wsf rr cx hE ws H locs cells slots ls hl hH hF
  obtain ⟨hx, hb, hr, hml, hown, hk, hz, hlocks, hnm, hfr, hlo⟩ := id cx
  unfold F_X11_through at hF
  refine lv_iload_n hx hb dX11_through_0 rfl (lv_at hl 1 rfl) ?_
  refine lv_aload_n hx hb dX11_through_1 rfl (lv_at hl 0 rfl) ?_
  refine m_gR hx hb hown hk hH hF fk_RX11_knotCount lk_RX11_32 dX11_through_2 (fun v1 hF => ?_)
  refine lv_iconst (v := (0)) hx hb dX11_through_5 (by decide) ?_
  refine m_aI0 hx hb hk hH hF dX11_through_6 (fun v2 hF => ?_)
  refine lv_icmp_gt (tgt := 17) hx hb dX11_through_7 (by decide) (fun hc2 => ?_) (fun hc2 => ?_)
  · have hF := bq_t hc2 hF
    refine lv_iload_n hx hb dX11_through_17 rfl (lv_at hl 1 rfl) ?_
    refine lv_aload_n hx hb dX11_through_18 rfl (lv_at hl 0 rfl) ?_
    refine m_gR hx hb hown hk hH hF fk_RX11_knotCount lk_RX11_32 dX11_through_19 (fun v4 hF => ?_)
    refine lv_aload_n hx hb dX11_through_22 rfl (lv_at hl 0 rfl) ?_
    refine m_gI hx hb hown hk hH hF fk_RX11_knots lk_RX11_111 dX11_through_23 (fun v5 hF => ?_)
    refine lv_iconst (v := (1)) hx hb dX11_through_26 (by decide) ?_
    refine lv_isub hx hb dX11_through_27 ?_
    refine m_aI0 hx hb hk hH hF dX11_through_28 (fun v6 hF => ?_)
    refine lv_icmp_lt (tgt := 44) hx hb dX11_through_29 (by decide) (fun hc6 => ?_) (fun hc6 => ?_)
    · have hF := bq_t hc6 hF
      refine lv_iconst (v := (0)) hx hb dX11_through_44 (by decide) ?_
      refine lv_istore_n (lv' := [(2, .int (0 : Int32)), (0, .ref o), (1, .int x1)]) hx hb dX11_through_45 rfl hl (by decide) (by first | rfl | simp [m_cat, m_ci, m_cl, m_cf, m_cd, m_cr]) (fun ls hl => ?_)
      refine w_X11_through_46 cx hE o x1 _ (fun e11 ws H locs cells slots ls hl hH hF => ?_) _ _ _ _ _ _ _ _ (lv_sub hl [1, 2, 0] rfl) hH hF
      refine lv_aload_n hx hb dX11_through_64 rfl (lv_at hl 0 rfl) ?_
      refine m_gR hx hb hown hk hH hF fk_RX11_knotCount lk_RX11_32 dX11_through_65 (fun v12 hF => ?_)
      refine lv_iload_n hx hb dX11_through_68 rfl (lv_at hl 2 rfl) ?_
      refine lv_iconst (v := (1)) hx hb dX11_through_69 (by decide) ?_
      refine lv_iadd hx hb dX11_through_70 ?_
      refine m_aI0 hx hb hk hH hF dX11_through_71 (fun v13 hF => ?_)
      refine lv_aload_n hx hb dX11_through_72 rfl (lv_at hl 0 rfl) ?_
      refine m_gR hx hb hown hk hH hF fk_RX11_knotCount lk_RX11_32 dX11_through_73 (fun v14 hF => ?_)
      refine lv_iload_n hx hb dX11_through_76 rfl (lv_at hl 2 rfl) ?_
      refine m_aI0 hx hb hk hH hF dX11_through_77 (fun v15 hF => ?_)
      refine lv_isub hx hb dX11_through_78 ?_
      refine lv_i2l hx hb dX11_through_79 rfl ?_
      refine lv_topl (fun v16 hv16 => ?_)
      have hF := rt_t hv16 hF
      refine lv_lstore_n (lv' := [(3, .long v16), (0, .ref o), (1, .int x1), (2, .int e11)]) hx hb dX11_through_80 rfl hl (by decide) (by first | rfl | simp [m_cat, m_ci, m_cl, m_cf, m_cd, m_cr]) (fun ls hl => ?_)
      refine lv_aload_n hx hb dX11_through_81 rfl (lv_at hl 1 rfl) ?_
      refine m_gR hx hb hown hk hH hF fk_RX11_knotValue lk_RX11_35 dX11_through_82 (fun v17 hF => ?_)
      refine lv_iload_n hx hb dX11_through_85 rfl (lv_at hl 3 rfl) ?_
      refine m_aI0 hx hb hk hH hF dX11_through_86 (fun v18 hF => ?_)
      refine lv_i2l hx hb dX11_through_87 rfl ?_
      refine lv_lload_n hx hb dX11_through_88 rfl (lv_at hl 0 rfl) ?_
      refine lv_lmul hx hb dX11_through_89 ?_
      refine lv_aload_n hx hb dX11_through_90 rfl (lv_at hl 1 rfl) ?_
      refine m_gR hx hb hown hk hH hF fk_RX11_knotValue lk_RX11_35 dX11_through_91 (fun v19 hF => ?_)
      refine lv_iload_n hx hb dX11_through_94 rfl (lv_at hl 3 rfl) ?_
      refine lv_iconst (v := (1)) hx hb dX11_through_95 (by decide) ?_
      refine lv_iadd hx hb dX11_through_96 ?_
      refine m_aI0 hx hb hk hH hF dX11_through_97 (fun v20 hF => ?_)
      refine lv_aload_n hx hb dX11_through_98 rfl (lv_at hl 1 rfl) ?_
      refine m_gR hx hb hown hk hH hF fk_RX11_knotValue lk_RX11_35 dX11_through_99 (fun v21 hF => ?_)
      refine lv_iload_n hx hb dX11_through_102 rfl (lv_at hl 3 rfl) ?_
      refine m_aI0 hx hb hk hH hF dX11_through_103 (fun v22 hF => ?_)
      refine lv_isub hx hb dX11_through_104 ?_
      refine lv_i2l hx hb dX11_through_105 rfl ?_
      refine lv_iload_n hx hb dX11_through_106 rfl (lv_at hl 2 rfl) ?_
      refine lv_aload_n hx hb dX11_through_107 rfl (lv_at hl 1 rfl) ?_
      refine m_gR hx hb hown hk hH hF fk_RX11_knotCount lk_RX11_32 dX11_through_108 (fun v23 hF => ?_)
      refine lv_iload_n hx hb dX11_through_111 rfl (lv_at hl 3 rfl) ?_
      refine m_aI0 hx hb hk hH hF dX11_through_112 (fun v24 hF => ?_)
      refine lv_isub hx hb dX11_through_113 ?_
      refine lv_i2l hx hb dX11_through_114 rfl ?_
      refine lv_lmul hx hb dX11_through_115 ?_
      refine lv_ladd hx hb dX11_through_116 ?_
      refine lv_lload_n hx hb dX11_through_117 rfl (lv_at hl 0 rfl) ?_
      refine m_cSL hx hb hml hown hk hH hE.le hz (As := [.long ((v18.toInt64 * v16) + ((v20 - v22).toInt64 * (x1 - v24).toInt64)), .long v16]) (rest := []) (t_X11_rounded l D cy z ((v18.toInt64 * v16) + ((v20 - v22).toInt64 * (x1 - v24).toInt64)) v16) hF wd_865 wd_866 wd_38 wd_867 yn_X11_rounded ⟨Nat.le_trans (by decide) hfr, Nat.le_trans (by decide) hlo⟩ hl.1 (by first | exact Nat.le_of_ble_eq_true rfl | simp [m_cat, m_ci, m_cl, m_cf, m_cd, m_cr]) rfl dX11_through_118 (fun c25 ws H locs cells slots hH hF => ?_)
      refine lv_l2i hx hb dX11_through_121 rfl ?_
      exact m_iret hx hb hr hlocks hH hE hF rfl dX11_through_122
    · have hF := bq_f hc6 hF
      refine lv_aload_n hx hb dX11_through_32 rfl (lv_at hl 0 rfl) ?_
      refine m_gR hx hb hown hk hH hF fk_RX11_knotValue lk_RX11_35 dX11_through_33 (fun v26 hF => ?_)
      refine lv_aload_n hx hb dX11_through_36 rfl (lv_at hl 0 rfl) ?_
      refine m_gI hx hb hown hk hH hF fk_RX11_knots lk_RX11_111 dX11_through_37 (fun v27 hF => ?_)
      refine lv_iconst (v := (1)) hx hb dX11_through_40 (by decide) ?_
      refine lv_isub hx hb dX11_through_41 ?_
      refine m_aI0 hx hb hk hH hF dX11_through_42 (fun v28 hF => ?_)
      exact m_iret hx hb hr hlocks hH hE hF rfl dX11_through_43
  · have hF := bq_f hc2 hF
    refine lv_aload_n hx hb dX11_through_10 rfl (lv_at hl 0 rfl) ?_
    refine m_gR hx hb hown hk hH hF fk_RX11_knotValue lk_RX11_35 dX11_through_11 (fun v29 hF => ?_)
    refine lv_iconst (v := (0)) hx hb dX11_through_14 (by decide) ?_
    refine m_aI0 hx hb hk hH hF dX11_through_15 (fun v30 hF => ?_)
    exact m_iret hx hb hr hlocks hH hE hF rfl dX11_through_16

def b_X11_pieces_28 (x0 : Nat) (x1 : Int32) (rec : Int32 → St (Int32)) (k : St (Int32)) (x2 : Int32) : St (Int32) :=
  br ((4096 : Int32) ≤ x2) (k) (bd (gR [10] 7 (some x0)) fun v8 => bd (dr [10] (some x0)) fun q10 => bd (F_X11_through q10.1 x2) fun c9 => bd (sI 0 v8 (((4096 : Int32) * x1) + x2) c9) fun _ => rec (x2 + (1 : Int32)))
def l_X11_pieces_28 (x0 : Nat) (x1 : Int32) (k : St (Int32)) : Nat → Int32 → St (Int32)
  | 0 => fun _ => fl
  | n + 1 => fun x2 => b_X11_pieces_28 x0 x1 (l_X11_pieces_28 x0 x1 k n) k x2
def F_X11_pieces (o : Nat) : St (Int32) :=
  bd (gI [10] 8 (some o)) fun v1 => br (v1 = 0) (rt (-2 : Int32)) (bd (gI [10] 4 (some o)) fun v3 => br (v3 = (60 : Int32)) (rt (-2 : Int32)) (bd (dr [10] (some o)) fun q6 => bd (F_X11_newCurve q6.1 (1 : Int32) (1 : Int32)) fun c5 => l_X11_pieces_28 o c5 (bd (pV [10] 8 (some o) (.int (0 : Int32))) fun _ => rt c5) FU (0 : Int32)))
set_option maxHeartbeats 4000000 in
set_option maxRecDepth 100000 in
theorem wb_X11_pieces_28 {l : Launch} {D : va_G} {cy : Nat → ClassId} {z : Nat} {p : Program} {e : Env} {R : Room} {s : State} {m : MethodId} {args : Array Value} {below : List Frame} {meth : Method} {c : Code} {ws0 wsf : WS} {rr : Int32} (cx : Cx D cy z RX11 cX11_pieces 3 (some .int) 3 91 "pieces" p R s m meth c) (hE : AC ws0 wsf R.cells R.slots) (x0 : Nat) (x1 : Int32) (rec : Int32 → St (Int32)) (k : St (Int32)) (hrec : ∀ (x2 : Int32), At_ l D cy z p e R s m args below meth c ws0 wsf vI rr 3 28 [(0, .ref x0), (1, .int x1), (2, .int x2)] [] (rec x2)) (hkk : At_ l D cy z p e R s m args below meth c ws0 wsf vI rr 3 58 [(0, .ref x0), (1, .int x1)] [] (k)) (x2 : Int32) : At_ l D cy z p e R s m args below meth c ws0 wsf vI rr 3 28 [(0, .ref x0), (1, .int x1), (2, .int x2)] [] (b_X11_pieces_28 x0 x1 rec k x2) := by
  intro ws H locs cells slots ls hl hH hF
  obtain ⟨hx, hb, hr, hml, hown, hk, hz, hlocks, hnm, hfr, hlo⟩ := id cx
  unfold b_X11_pieces_28 at hF
  refine lv_iload_n hx hb dX11_pieces_28 rfl (lv_at hl 2 rfl) ?_
  refine lv_sipush (v := (4096)) hx hb dX11_pieces_29 (by decide) ?_
  refine lv_icmp_ge (tgt := 58) hx hb dX11_pieces_32 (by decide) (fun hc6 => ?_) (fun hc6 => ?_)
  · have hF := bq_t hc6 hF
    exact hkk _ _ _ _ _ _ (lv_sub hl [0, 1] rfl) hH hF
  · have hF := bq_f hc6 hF
    refine lv_aload_n hx hb dX11_pieces_35 rfl (lv_at hl 0 rfl) ?_
    refine m_gR hx hb hown hk hH hF fk_RX11_value lk_RX11_29 dX11_pieces_36 (fun v8 hF => ?_)
    refine lv_sipush (v := (4096)) hx hb dX11_pieces_39 (by decide) ?_
    refine lv_iload_n hx hb dX11_pieces_42 rfl (lv_at hl 1 rfl) ?_
    refine lv_imul hx hb dX11_pieces_43 ?_
    refine lv_iload_n hx hb dX11_pieces_44 rfl (lv_at hl 2 rfl) ?_
    refine lv_iadd hx hb dX11_pieces_45 ?_
    refine lv_aload_n hx hb dX11_pieces_46 rfl (lv_at hl 0 rfl) ?_
    refine lv_iload_n hx hb dX11_pieces_47 rfl (lv_at hl 2 rfl) ?_
    refine m_cVI hx hb hml hown hk hH hE.le hz (F := fun q10 => F_X11_through q10.1 x2) (C := RX11) (T := TX11) (N := 22) rfl (As := [.int x2]) (rest := [.int (((4096 : Int32) * x1) + x2), va_rf v8]) (fun o => t_X11_through l D cy z o x2) hF wd_891 wd_893 wd_38 wd_894 wd_18 yn_X11_through ⟨Nat.le_trans (by decide) hfr, Nat.le_trans (by decide) hlo⟩ hl.1 (by first | exact Nat.le_of_ble_eq_true rfl | simp [m_cat, m_ci, m_cl, m_cf, m_cd, m_cr]) rfl dX11_pieces_48 (fun c9 ws H locs cells slots hH hF => ?_)
    refine m_sI0 hx hb hk hH hF dX11_pieces_51 (fun ws H locs hH hF => ?_)
    refine lv_iinc (v := (x2 + (1 : Int32))) (lv' := [(2, .int (x2 + (1 : Int32))), (0, .ref x0), (1, .int x1)]) hx hb dX11_pieces_52 hl (k := 2) rfl (by first | rfl | (congr 1)) (by decide) (by first | rfl | simp [m_cat, m_ci, m_cl, m_cf, m_cd, m_cr]) (fun ls hl => ?_)
    refine lv_goto (tgt := 28) hx hb dX11_pieces_55 (by decide) ?_
    exact hrec _ _ _ _ _ _ _ (lv_sub hl [1, 2, 0] rfl) hH hF
theorem w_X11_pieces_28 {l : Launch} {D : va_G} {cy : Nat → ClassId} {z : Nat} {p : Program} {e : Env} {R : Room} {s : State} {m : MethodId} {args : Array Value} {below : List Frame} {meth : Method} {c : Code} {ws0 wsf : WS} {rr : Int32} (cx : Cx D cy z RX11 cX11_pieces 3 (some .int) 3 91 "pieces" p R s m meth c) (hE : AC ws0 wsf R.cells R.slots) (x0 : Nat) (x1 : Int32) (k : St (Int32)) (hkk : At_ l D cy z p e R s m args below meth c ws0 wsf vI rr 3 58 [(0, .ref x0), (1, .int x1)] [] (k)) : ∀ (n : Nat) (x2 : Int32), At_ l D cy z p e R s m args below meth c ws0 wsf vI rr 3 28 [(0, .ref x0), (1, .int x1), (2, .int x2)] [] (l_X11_pieces_28 x0 x1 k n x2) := by
  intro n
  induction n with
  | zero =>
    intro x2 ws H locs cells slots ls hl hH hF
    exact fl_t hF
  | succ n ih =>
    intro x2
    exact wb_X11_pieces_28 cx hE x0 x1 (l_X11_pieces_28 x0 x1 k n) k ih hkk x2
set_option maxHeartbeats 4000000 in
set_option maxRecDepth 100000 in
theorem t_X11_pieces (l : Launch) (D : va_G) (cy : Nat → ClassId) (z : Nat) (o : Nat) : MT l D cy z yX11_pieces cX11_pieces 3 (some .int) 3 91 (F_X11_pieces o) vI [.ref o] := by
  refine m_enter [(0, .ref o)] (by decide) (by first | rfl | simp [lv_args, m_cat, m_ci, m_cl, m_cf, m_cd, m_cr]) (by first | exact Nat.le_of_ble_eq_true rfl | simp [lg_sl, m_cat, m_ci, m_cl, m_cf, m_cd, m_cr]) ?_
  intro p e R s m args below meth c ws0 wsf rr cx hE ws H locs cells slots ls hl hH hF
  obtain ⟨hx, hb, hr, hml, hown, hk, hz, hlocks, hnm, hfr, hlo⟩ := id cx
  unfold F_X11_pieces at hF
  refine lv_aload_n hx hb dX11_pieces_0 rfl (lv_at hl 0 rfl) ?_
  refine m_gI hx hb hown hk hH hF fk_RX11_knots lk_RX11_111 dX11_pieces_1 (fun v1 hF => ?_)
  refine lv_if_eq (tgt := 16) hx hb dX11_pieces_4 (by decide) (fun hc1 => ?_) (fun hc1 => ?_)
  · have hF := bq_t hc1 hF
    refine lv_bipush (v := (-2)) hx hb dX11_pieces_16 (by decide) ?_
    exact m_iret hx hb hr hlocks hH hE hF rfl dX11_pieces_18
  · have hF := bq_f hc1 hF
    refine lv_aload_n hx hb dX11_pieces_7 rfl (lv_at hl 0 rfl) ?_
    refine m_gI hx hb hown hk hH hF fk_RX11_curves lk_RX11_85 dX11_pieces_8 (fun v3 hF => ?_)
    refine lv_bipush (v := (60)) hx hb dX11_pieces_11 (by decide) ?_
    refine lv_icmp_ne (tgt := 19) hx hb dX11_pieces_13 (by decide) (fun hc3 => ?_) (fun hc3 => ?_)
    · have hF := bq_f hc3 hF
      refine lv_aload_n hx hb dX11_pieces_19 rfl (lv_at hl 0 rfl) ?_
      refine lv_iconst (v := (1)) hx hb dX11_pieces_20 (by decide) ?_
      refine lv_iconst (v := (1)) hx hb dX11_pieces_21 (by decide) ?_
      refine m_cVI hx hb hml hown hk hH hE.le hz (F := fun q6 => F_X11_newCurve q6.1 (1 : Int32) (1 : Int32)) (C := RX11) (T := TX11) (N := 22) rfl (As := [.int (1 : Int32), .int (1 : Int32)]) (rest := []) (fun o => t_X11_newCurve l D cy z o (1 : Int32) (1 : Int32)) hF wd_861 wd_863 wd_38 wd_864 wd_17 yn_X11_newCurve ⟨Nat.le_trans (by decide) hfr, Nat.le_trans (by decide) hlo⟩ hl.1 (by first | exact Nat.le_of_ble_eq_true rfl | simp [m_cat, m_ci, m_cl, m_cf, m_cd, m_cr]) rfl dX11_pieces_22 (fun c5 ws H locs cells slots hH hF => ?_)
      refine lv_istore_n (lv' := [(1, .int c5), (0, .ref o)]) hx hb dX11_pieces_25 rfl hl (by decide) (by first | rfl | simp [m_cat, m_ci, m_cl, m_cf, m_cd, m_cr]) (fun ls hl => ?_)
      refine lv_iconst (v := (0)) hx hb dX11_pieces_26 (by decide) ?_
      refine lv_istore_n (lv' := [(2, .int (0 : Int32)), (1, .int c5), (0, .ref o)]) hx hb dX11_pieces_27 rfl hl (by decide) (by first | rfl | simp [m_cat, m_ci, m_cl, m_cf, m_cd, m_cr]) (fun ls hl => ?_)
      refine w_X11_pieces_28 cx hE o c5 _ (fun ws H locs cells slots ls hl hH hF => ?_) _ _ _ _ _ _ _ _ (lv_sub hl [2, 1, 0] rfl) hH hF
      refine lv_aload_n hx hb dX11_pieces_58 rfl (lv_at hl 0 rfl) ?_
      refine lv_iconst (v := (0)) hx hb dX11_pieces_59 (by decide) ?_
      refine m_pV hx hb hown hk hH hF fk_RX11_knots lk_RX11_111 pd_9 rfl rfl dX11_pieces_60 (fun ws H locs hH hF => ?_)
      refine lv_iload_n hx hb dX11_pieces_63 rfl (lv_at hl 1 rfl) ?_
      exact m_iret hx hb hr hlocks hH hE hF rfl dX11_pieces_64
    · have hF := bq_t hc3 hF
      refine lv_bipush (v := (-2)) hx hb dX11_pieces_16 (by decide) ?_
      exact m_iret hx hb hr hlocks hH hE hF rfl dX11_pieces_18
