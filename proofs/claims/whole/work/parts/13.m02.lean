def j_X11_gather_111 (rec : Int64 → Int64 → Int32 → St (Int32)) (k : Int64 → Int64 → St (Int32)) (x0 : Nat) (x1 : Int32) (x2 : Int32) (x3 : Int64) (x7 : Int32) (s0 : Int64) (s1 : Int64) : St (Int32) :=
  bd (rt (s0 + s1)) fun v15 => rec x3 v15 (x7 + (1 : Int32))
def j_X11_gather_84 (rec : Int64 → Int64 → Int32 → St (Int32)) (k : Int64 → Int64 → St (Int32)) (x0 : Nat) (x1 : Int32) (x2 : Int32) (x5 : Int64) (x7 : Int32) (x8 : Int32) (s0 : Int64) (s1 : Int64) : St (Int32) :=
  bd (rt (s0 + s1)) fun v11 => bd (gR [10] 1 (some x0)) fun v12 => bd (aI 0 v12 x8) fun v13 => br (v13 = x2) (bd (gR [10] 3 (some x0)) fun v16 => bd (aI 0 v16 x8) fun v17 => j_X11_gather_111 rec k x0 x1 x2 v11 x7 x5 v17.toInt64) (j_X11_gather_111 rec k x0 x1 x2 v11 x7 x5 (0 : Int64))
def b_X11_gather_32 (x0 : Nat) (x1 : Int32) (x2 : Int32) (rec : Int64 → Int64 → Int32 → St (Int32)) (k : Int64 → Int64 → St (Int32)) (x3 : Int64) (x5 : Int64) (x7 : Int32) : St (Int32) :=
  bd (gR [10] 0 (some x0)) fun v4 => bd (aI 0 v4 x1) fun v5 => br (v5 ≤ x7) (k x3 x5) (bd (rt (((24 : Int32) * x1) + x7)) fun v7 => bd (gR [10] 1 (some x0)) fun v8 => bd (aI 0 v8 v7) fun v9 => br (v9 = x2) (bd (gR [10] 3 (some x0)) fun v18 => bd (aI 0 v18 v7) fun v19 => bd (gR [10] 2 (some x0)) fun v20 => bd (aI 0 v20 v7) fun v21 => j_X11_gather_84 rec k x0 x1 x2 x5 x7 v7 x3 ((v19 * v21).toInt64)) (j_X11_gather_84 rec k x0 x1 x2 x5 x7 v7 x3 (0 : Int64)))
def l_X11_gather_32 (x0 : Nat) (x1 : Int32) (x2 : Int32) (k : Int64 → Int64 → St (Int32)) : Nat → Int64 → Int64 → Int32 → St (Int32)
  | 0 => fun _ _ _ => fl
  | n + 1 => fun x3 x5 x7 => b_X11_gather_32 x0 x1 x2 (l_X11_gather_32 x0 x1 x2 k n) k x3 x5 x7
def j_X11_gather_163 (rec : Int32 → St (Int32)) (k : St (Int32)) (x0 : Nat) (x1 : Int32) (x2 : Int32) : St (Int32) :=
  rec (x2 + (1 : Int32))
def b_X11_gather_17 (x0 : Nat) (x1 : Int32) (rec : Int32 → St (Int32)) (k : St (Int32)) (x2 : Int32) : St (Int32) :=
  br ((4096 : Int32) ≤ x2) (k) (l_X11_gather_32 x0 x1 x2 (fun (e22 : Int64) (e23 : Int64) => br ((lg_cmp e23 (0 : Int64)) ≤ 0) (j_X11_gather_163 rec k x0 x1 x2) (bd (gR [10] 9 (some x0)) fun v25 => bd (gI [10] 8 (some x0)) fun v26 => bd (sI 0 v25 v26 x2) fun _ => bd (gR [10] 10 (some x0)) fun v27 => bd (gI [10] 8 (some x0)) fun v28 => bd (F_X11_rounded e22 e23) fun c29 => bd (sI 0 v27 v28 c29.toInt32) fun _ => bd (gI [10] 8 (some x0)) fun v30 => bd (pV [10] 8 (some x0) (.int (v30 + (1 : Int32)))) fun _ => j_X11_gather_163 rec k x0 x1 x2)) FU (0 : Int64) (0 : Int64) (0 : Int32))
def l_X11_gather_17 (x0 : Nat) (x1 : Int32) (k : St (Int32)) : Nat → Int32 → St (Int32)
  | 0 => fun _ => fl
  | n + 1 => fun x2 => b_X11_gather_17 x0 x1 (l_X11_gather_17 x0 x1 k n) k x2
def F_X11_gather (o : Nat) (x1 : Int32) : St (Int32) :=
  bd (F_X11_isSensor x1) fun c1 => br (c1 = 0) (rt (-2 : Int32)) (bd (pV [10] 8 (some o) (.int (0 : Int32))) fun _ => l_X11_gather_17 o x1 (bd (gI [10] 8 (some o)) fun v31 => rt v31) FU (0 : Int32))
set_option maxHeartbeats 4000000 in
set_option maxRecDepth 100000 in
theorem w_X11_gather_111 {l : Launch} {D : va_G} {cy : Nat → ClassId} {z : Nat} {p : Program} {e : Env} {R : Room} {s : State} {m : MethodId} {args : Array Value} {below : List Frame} {meth : Method} {c : Code} {ws0 wsf : WS} {rr : Int32} (cx : Cx D cy z RX11 cX11_gather 9 (some .int) 2 67 "gather" p R s m meth c) (hE : AC ws0 wsf R.cells R.slots) (rec : Int64 → Int64 → Int32 → St (Int32)) (k : Int64 → Int64 → St (Int32)) (x0 : Nat) (x1 : Int32) (x2 : Int32) (hrec : ∀ (x3 : Int64) (x5 : Int64) (x7 : Int32), At_ l D cy z p e R s m args below meth c ws0 wsf vI rr 9 32 [(0, .ref x0), (1, .int x1), (2, .int x2), (3, .long x3), (5, .long x5), (7, .int x7)] [] (rec x3 x5 x7)) (hkk : ∀ (x3 : Int64) (x5 : Int64), At_ l D cy z p e R s m args below meth c ws0 wsf vI rr 9 120 [(0, .ref x0), (1, .int x1), (2, .int x2), (3, .long x3), (5, .long x5)] [] (k x3 x5)) (x3 : Int64) (x7 : Int32) (s0 : Int64) (s1 : Int64) : At_ l D cy z p e R s m args below meth c ws0 wsf vI rr 9 111 [(0, .ref x0), (1, .int x1), (2, .int x2), (3, .long x3), (7, .int x7)] [.long s1, .long s0] (j_X11_gather_111 rec k x0 x1 x2 x3 x7 s0 s1) := by
  intro ws H locs cells slots ls hl hH hF
  obtain ⟨hx, hb, hr, hml, hown, hk, hz, hlocks, hnm, hfr, hlo⟩ := id cx
  unfold j_X11_gather_111 at hF
  refine lv_ladd hx hb dX11_gather_111 ?_
  refine lv_topl (fun v15 hv15 => ?_)
  have hF := rt_t hv15 hF
  refine lv_lstore (lv' := [(5, .long v15), (0, .ref x0), (1, .int x1), (2, .int x2), (3, .long x3), (7, .int x7)]) hx hb dX11_gather_112 hl (by decide) (by first | rfl | simp [m_cat, m_ci, m_cl, m_cf, m_cd, m_cr]) (fun ls hl => ?_)
  refine lv_iinc (v := (x7 + (1 : Int32))) (lv' := [(7, .int (x7 + (1 : Int32))), (5, .long v15), (0, .ref x0), (1, .int x1), (2, .int x2), (3, .long x3)]) hx hb dX11_gather_114 hl (k := 5) rfl (by first | rfl | (congr 1)) (by decide) (by first | rfl | simp [m_cat, m_ci, m_cl, m_cf, m_cd, m_cr]) (fun ls hl => ?_)
  refine lv_goto (tgt := 32) hx hb dX11_gather_117 (by decide) ?_
  exact hrec _ _ _ _ _ _ _ _ _ (lv_sub hl [2, 3, 4, 5, 1, 0] rfl) hH hF
set_option maxHeartbeats 4000000 in
set_option maxRecDepth 100000 in
theorem w_X11_gather_84 {l : Launch} {D : va_G} {cy : Nat → ClassId} {z : Nat} {p : Program} {e : Env} {R : Room} {s : State} {m : MethodId} {args : Array Value} {below : List Frame} {meth : Method} {c : Code} {ws0 wsf : WS} {rr : Int32} (cx : Cx D cy z RX11 cX11_gather 9 (some .int) 2 67 "gather" p R s m meth c) (hE : AC ws0 wsf R.cells R.slots) (rec : Int64 → Int64 → Int32 → St (Int32)) (k : Int64 → Int64 → St (Int32)) (x0 : Nat) (x1 : Int32) (x2 : Int32) (hrec : ∀ (x3 : Int64) (x5 : Int64) (x7 : Int32), At_ l D cy z p e R s m args below meth c ws0 wsf vI rr 9 32 [(0, .ref x0), (1, .int x1), (2, .int x2), (3, .long x3), (5, .long x5), (7, .int x7)] [] (rec x3 x5 x7)) (hkk : ∀ (x3 : Int64) (x5 : Int64), At_ l D cy z p e R s m args below meth c ws0 wsf vI rr 9 120 [(0, .ref x0), (1, .int x1), (2, .int x2), (3, .long x3), (5, .long x5)] [] (k x3 x5)) (x5 : Int64) (x7 : Int32) (x8 : Int32) (s0 : Int64) (s1 : Int64) : At_ l D cy z p e R s m args below meth c ws0 wsf vI rr 9 84 [(0, .ref x0), (1, .int x1), (2, .int x2), (5, .long x5), (7, .int x7), (8, .int x8)] [.long s1, .long s0] (j_X11_gather_84 rec k x0 x1 x2 x5 x7 x8 s0 s1) := by
  intro ws H locs cells slots ls hl hH hF
  obtain ⟨hx, hb, hr, hml, hown, hk, hz, hlocks, hnm, hfr, hlo⟩ := id cx
  unfold j_X11_gather_84 at hF
  refine lv_ladd hx hb dX11_gather_84 ?_
  refine lv_topl (fun v11 hv11 => ?_)
  have hF := rt_t hv11 hF
  refine lv_lstore_n (lv' := [(3, .long v11), (0, .ref x0), (1, .int x1), (2, .int x2), (5, .long x5), (7, .int x7), (8, .int x8)]) hx hb dX11_gather_85 rfl hl (by decide) (by first | rfl | simp [m_cat, m_ci, m_cl, m_cf, m_cd, m_cr]) (fun ls hl => ?_)
  refine lv_lload hx hb dX11_gather_86 (lv_at hl 4 rfl) ?_
  refine lv_aload_n hx hb dX11_gather_88 rfl (lv_at hl 1 rfl) ?_
  refine m_gR hx hb hown hk hH hF fk_RX11_count lk_RX11_13 dX11_gather_89 (fun v12 hF => ?_)
  refine lv_iload hx hb dX11_gather_92 (lv_at hl 6 rfl) ?_
  refine m_aI0 hx hb hk hH hF dX11_gather_94 (fun v13 hF => ?_)
  refine lv_iload_n hx hb dX11_gather_95 rfl (lv_at hl 3 rfl) ?_
  refine lv_icmp_ne (tgt := 110) hx hb dX11_gather_96 (by decide) (fun hc13 => ?_) (fun hc13 => ?_)
  · have hF := bq_f hc13 hF
    refine lv_lconst (v := (0)) hx hb dX11_gather_110 (by decide) ?_
    exact w_X11_gather_111 cx hE _ _ x0 x1 x2 hrec hkk v11 x7 x5 (0 : Int64) _ _ _ _ _ _ (lv_sub hl [1, 2, 3, 0, 5] rfl) hH hF
  · have hF := bq_t hc13 hF
    refine lv_aload_n hx hb dX11_gather_99 rfl (lv_at hl 1 rfl) ?_
    refine m_gR hx hb hown hk hH hF fk_RX11_weight lk_RX11_19 dX11_gather_100 (fun v16 hF => ?_)
    refine lv_iload hx hb dX11_gather_103 (lv_at hl 6 rfl) ?_
    refine m_aI0 hx hb hk hH hF dX11_gather_105 (fun v17 hF => ?_)
    refine lv_i2l hx hb dX11_gather_106 rfl ?_
    refine lv_goto (tgt := 111) hx hb dX11_gather_107 (by decide) ?_
    exact w_X11_gather_111 cx hE _ _ x0 x1 x2 hrec hkk v11 x7 x5 v17.toInt64 _ _ _ _ _ _ (lv_sub hl [1, 2, 3, 0, 5] rfl) hH hF
set_option maxHeartbeats 4000000 in
set_option maxRecDepth 100000 in
theorem wb_X11_gather_32 {l : Launch} {D : va_G} {cy : Nat → ClassId} {z : Nat} {p : Program} {e : Env} {R : Room} {s : State} {m : MethodId} {args : Array Value} {below : List Frame} {meth : Method} {c : Code} {ws0 wsf : WS} {rr : Int32} (cx : Cx D cy z RX11 cX11_gather 9 (some .int) 2 67 "gather" p R s m meth c) (hE : AC ws0 wsf R.cells R.slots) (x0 : Nat) (x1 : Int32) (x2 : Int32) (rec : Int64 → Int64 → Int32 → St (Int32)) (k : Int64 → Int64 → St (Int32)) (hrec : ∀ (x3 : Int64) (x5 : Int64) (x7 : Int32), At_ l D cy z p e R s m args below meth c ws0 wsf vI rr 9 32 [(0, .ref x0), (1, .int x1), (2, .int x2), (3, .long x3), (5, .long x5), (7, .int x7)] [] (rec x3 x5 x7)) (hkk : ∀ (x3 : Int64) (x5 : Int64), At_ l D cy z p e R s m args below meth c ws0 wsf vI rr 9 120 [(0, .ref x0), (1, .int x1), (2, .int x2), (3, .long x3), (5, .long x5)] [] (k x3 x5)) (x3 : Int64) (x5 : Int64) (x7 : Int32) : At_ l D cy z p e R s m args below meth c ws0 wsf vI rr 9 32 [(0, .ref x0), (1, .int x1), (2, .int x2), (3, .long x3), (5, .long x5), (7, .int x7)] [] (b_X11_gather_32 x0 x1 x2 rec k x3 x5 x7) := by
  intro ws H locs cells slots ls hl hH hF
  obtain ⟨hx, hb, hr, hml, hown, hk, hz, hlocks, hnm, hfr, hlo⟩ := id cx
  unfold b_X11_gather_32 at hF
  refine lv_iload hx hb dX11_gather_32 (lv_at hl 5 rfl) ?_
  refine lv_aload_n hx hb dX11_gather_34 rfl (lv_at hl 0 rfl) ?_
  refine m_gR hx hb hown hk hH hF fk_RX11_readings lk_RX11_9 dX11_gather_35 (fun v4 hF => ?_)
  refine lv_iload_n hx hb dX11_gather_38 rfl (lv_at hl 1 rfl) ?_
  refine m_aI0 hx hb hk hH hF dX11_gather_39 (fun v5 hF => ?_)
  refine lv_icmp_ge (tgt := 120) hx hb dX11_gather_40 (by decide) (fun hc5 => ?_) (fun hc5 => ?_)
  · have hF := bq_t hc5 hF
    exact hkk _ _ _ _ _ _ _ _ (lv_sub hl [0, 1, 2, 3, 4] rfl) hH hF
  · have hF := bq_f hc5 hF
    refine lv_bipush (v := (24)) hx hb dX11_gather_43 (by decide) ?_
    refine lv_iload_n hx hb dX11_gather_45 rfl (lv_at hl 1 rfl) ?_
    refine lv_imul hx hb dX11_gather_46 ?_
    refine lv_iload hx hb dX11_gather_47 (lv_at hl 5 rfl) ?_
    refine lv_iadd hx hb dX11_gather_49 ?_
    refine lv_topi (fun v7 hv7 => ?_)
    have hF := rt_t hv7 hF
    refine lv_istore (lv' := [(8, .int v7), (0, .ref x0), (1, .int x1), (2, .int x2), (3, .long x3), (5, .long x5), (7, .int x7)]) hx hb dX11_gather_50 hl (by decide) (by first | rfl | simp [m_cat, m_ci, m_cl, m_cf, m_cd, m_cr]) (fun ls hl => ?_)
    refine lv_lload_n hx hb dX11_gather_52 rfl (lv_at hl 4 rfl) ?_
    refine lv_aload_n hx hb dX11_gather_53 rfl (lv_at hl 1 rfl) ?_
    refine m_gR hx hb hown hk hH hF fk_RX11_count lk_RX11_13 dX11_gather_54 (fun v8 hF => ?_)
    refine lv_iload hx hb dX11_gather_57 (lv_at hl 0 rfl) ?_
    refine m_aI0 hx hb hk hH hF dX11_gather_59 (fun v9 hF => ?_)
    refine lv_iload_n hx hb dX11_gather_60 rfl (lv_at hl 3 rfl) ?_
    refine lv_icmp_ne (tgt := 83) hx hb dX11_gather_61 (by decide) (fun hc9 => ?_) (fun hc9 => ?_)
    · have hF := bq_f hc9 hF
      refine lv_lconst (v := (0)) hx hb dX11_gather_83 (by decide) ?_
      exact w_X11_gather_84 cx hE _ _ x0 x1 x2 hrec hkk x5 x7 v7 x3 (0 : Int64) _ _ _ _ _ _ (lv_sub hl [1, 2, 3, 5, 6, 0] rfl) hH hF
    · have hF := bq_t hc9 hF
      refine lv_aload_n hx hb dX11_gather_64 rfl (lv_at hl 1 rfl) ?_
      refine m_gR hx hb hown hk hH hF fk_RX11_weight lk_RX11_19 dX11_gather_65 (fun v18 hF => ?_)
      refine lv_iload hx hb dX11_gather_68 (lv_at hl 0 rfl) ?_
      refine m_aI0 hx hb hk hH hF dX11_gather_70 (fun v19 hF => ?_)
      refine lv_aload_n hx hb dX11_gather_71 rfl (lv_at hl 1 rfl) ?_
      refine m_gR hx hb hown hk hH hF fk_RX11_reference lk_RX11_16 dX11_gather_72 (fun v20 hF => ?_)
      refine lv_iload hx hb dX11_gather_75 (lv_at hl 0 rfl) ?_
      refine m_aI0 hx hb hk hH hF dX11_gather_77 (fun v21 hF => ?_)
      refine lv_imul hx hb dX11_gather_78 ?_
      refine lv_i2l hx hb dX11_gather_79 rfl ?_
      refine lv_goto (tgt := 84) hx hb dX11_gather_80 (by decide) ?_
      exact w_X11_gather_84 cx hE _ _ x0 x1 x2 hrec hkk x5 x7 v7 x3 ((v19 * v21).toInt64) _ _ _ _ _ _ (lv_sub hl [1, 2, 3, 5, 6, 0] rfl) hH hF
theorem w_X11_gather_32 {l : Launch} {D : va_G} {cy : Nat → ClassId} {z : Nat} {p : Program} {e : Env} {R : Room} {s : State} {m : MethodId} {args : Array Value} {below : List Frame} {meth : Method} {c : Code} {ws0 wsf : WS} {rr : Int32} (cx : Cx D cy z RX11 cX11_gather 9 (some .int) 2 67 "gather" p R s m meth c) (hE : AC ws0 wsf R.cells R.slots) (x0 : Nat) (x1 : Int32) (x2 : Int32) (k : Int64 → Int64 → St (Int32)) (hkk : ∀ (x3 : Int64) (x5 : Int64), At_ l D cy z p e R s m args below meth c ws0 wsf vI rr 9 120 [(0, .ref x0), (1, .int x1), (2, .int x2), (3, .long x3), (5, .long x5)] [] (k x3 x5)) : ∀ (n : Nat) (x3 : Int64) (x5 : Int64) (x7 : Int32), At_ l D cy z p e R s m args below meth c ws0 wsf vI rr 9 32 [(0, .ref x0), (1, .int x1), (2, .int x2), (3, .long x3), (5, .long x5), (7, .int x7)] [] (l_X11_gather_32 x0 x1 x2 k n x3 x5 x7) := by
  intro n
  induction n with
  | zero =>
    intro x3 x5 x7 ws H locs cells slots ls hl hH hF
    exact fl_t hF
  | succ n ih =>
    intro x3 x5 x7
    exact wb_X11_gather_32 cx hE x0 x1 x2 (l_X11_gather_32 x0 x1 x2 k n) k ih hkk x3 x5 x7
set_option maxHeartbeats 4000000 in
set_option maxRecDepth 100000 in
theorem w_X11_gather_163 {l : Launch} {D : va_G} {cy : Nat → ClassId} {z : Nat} {p : Program} {e : Env} {R : Room} {s : State} {m : MethodId} {args : Array Value} {below : List Frame} {meth : Method} {c : Code} {ws0 wsf : WS} {rr : Int32} (cx : Cx D cy z RX11 cX11_gather 9 (some .int) 2 67 "gather" p R s m meth c) (hE : AC ws0 wsf R.cells R.slots) (rec : Int32 → St (Int32)) (k : St (Int32)) (x0 : Nat) (x1 : Int32) (hrec : ∀ (x2 : Int32), At_ l D cy z p e R s m args below meth c ws0 wsf vI rr 9 17 [(0, .ref x0), (1, .int x1), (2, .int x2)] [] (rec x2)) (hkk : At_ l D cy z p e R s m args below meth c ws0 wsf vI rr 9 169 [(0, .ref x0)] [] (k)) (x2 : Int32) : At_ l D cy z p e R s m args below meth c ws0 wsf vI rr 9 163 [(0, .ref x0), (1, .int x1), (2, .int x2)] [] (j_X11_gather_163 rec k x0 x1 x2) := by
  intro ws H locs cells slots ls hl hH hF
  obtain ⟨hx, hb, hr, hml, hown, hk, hz, hlocks, hnm, hfr, hlo⟩ := id cx
  unfold j_X11_gather_163 at hF
  refine lv_iinc (v := (x2 + (1 : Int32))) (lv' := [(2, .int (x2 + (1 : Int32))), (0, .ref x0), (1, .int x1)]) hx hb dX11_gather_163 hl (k := 2) rfl (by first | rfl | (congr 1)) (by decide) (by first | rfl | simp [m_cat, m_ci, m_cl, m_cf, m_cd, m_cr]) (fun ls hl => ?_)
  refine lv_goto (tgt := 17) hx hb dX11_gather_166 (by decide) ?_
  exact hrec _ _ _ _ _ _ _ (lv_sub hl [1, 2, 0] rfl) hH hF
set_option maxHeartbeats 4000000 in
set_option maxRecDepth 100000 in
theorem wb_X11_gather_17 {l : Launch} {D : va_G} {cy : Nat → ClassId} {z : Nat} {p : Program} {e : Env} {R : Room} {s : State} {m : MethodId} {args : Array Value} {below : List Frame} {meth : Method} {c : Code} {ws0 wsf : WS} {rr : Int32} (cx : Cx D cy z RX11 cX11_gather 9 (some .int) 2 67 "gather" p R s m meth c) (hE : AC ws0 wsf R.cells R.slots) (x0 : Nat) (x1 : Int32) (rec : Int32 → St (Int32)) (k : St (Int32)) (hrec : ∀ (x2 : Int32), At_ l D cy z p e R s m args below meth c ws0 wsf vI rr 9 17 [(0, .ref x0), (1, .int x1), (2, .int x2)] [] (rec x2)) (hkk : At_ l D cy z p e R s m args below meth c ws0 wsf vI rr 9 169 [(0, .ref x0)] [] (k)) (x2 : Int32) : At_ l D cy z p e R s m args below meth c ws0 wsf vI rr 9 17 [(0, .ref x0), (1, .int x1), (2, .int x2)] [] (b_X11_gather_17 x0 x1 rec k x2) := by
  intro ws H locs cells slots ls hl hH hF
  obtain ⟨hx, hb, hr, hml, hown, hk, hz, hlocks, hnm, hfr, hlo⟩ := id cx
  unfold b_X11_gather_17 at hF
  refine lv_iload_n hx hb dX11_gather_17 rfl (lv_at hl 2 rfl) ?_
  refine lv_sipush (v := (4096)) hx hb dX11_gather_18 (by decide) ?_
  refine lv_icmp_ge (tgt := 169) hx hb dX11_gather_21 (by decide) (fun hc2 => ?_) (fun hc2 => ?_)
  · have hF := bq_t hc2 hF
    exact hkk _ _ _ _ _ _ (lv_sub hl [0] rfl) hH hF
  · have hF := bq_f hc2 hF
    refine lv_lconst (v := (0)) hx hb dX11_gather_24 (by decide) ?_
    refine lv_lstore_n (lv' := [(3, .long (0 : Int64)), (0, .ref x0), (1, .int x1), (2, .int x2)]) hx hb dX11_gather_25 rfl hl (by decide) (by first | rfl | simp [m_cat, m_ci, m_cl, m_cf, m_cd, m_cr]) (fun ls hl => ?_)
    refine lv_lconst (v := (0)) hx hb dX11_gather_26 (by decide) ?_
    refine lv_lstore (lv' := [(5, .long (0 : Int64)), (3, .long (0 : Int64)), (0, .ref x0), (1, .int x1), (2, .int x2)]) hx hb dX11_gather_27 hl (by decide) (by first | rfl | simp [m_cat, m_ci, m_cl, m_cf, m_cd, m_cr]) (fun ls hl => ?_)
    refine lv_iconst (v := (0)) hx hb dX11_gather_29 (by decide) ?_
    refine lv_istore (lv' := [(7, .int (0 : Int32)), (5, .long (0 : Int64)), (3, .long (0 : Int64)), (0, .ref x0), (1, .int x1), (2, .int x2)]) hx hb dX11_gather_30 hl (by decide) (by first | rfl | simp [m_cat, m_ci, m_cl, m_cf, m_cd, m_cr]) (fun ls hl => ?_)
    refine w_X11_gather_32 cx hE x0 x1 x2 _ (fun e22 e23 ws H locs cells slots ls hl hH hF => ?_) _ _ _ _ _ _ _ _ _ _ (lv_sub hl [3, 4, 5, 2, 1, 0] rfl) hH hF
    refine lv_lload hx hb dX11_gather_120 (lv_at hl 4 rfl) ?_
    refine lv_lconst (v := (0)) hx hb dX11_gather_122 (by decide) ?_
    refine W.lcmp hx hb dX11_gather_123 ?_
    refine lv_if_le (tgt := 163) hx hb dX11_gather_124 (by decide) (fun hc23 => ?_) (fun hc23 => ?_)
    · have hF := bq_t hc23 hF
      exact w_X11_gather_163 cx hE _ _ x0 x1 hrec hkk x2 _ _ _ _ _ _ (lv_sub hl [0, 1, 2] rfl) hH hF
    · have hF := bq_f hc23 hF
      refine lv_aload_n hx hb dX11_gather_127 rfl (lv_at hl 0 rfl) ?_
      refine m_gR hx hb hown hk hH hF fk_RX11_knotCount lk_RX11_32 dX11_gather_128 (fun v25 hF => ?_)
      refine lv_aload_n hx hb dX11_gather_131 rfl (lv_at hl 0 rfl) ?_
      refine m_gI hx hb hown hk hH hF fk_RX11_knots lk_RX11_111 dX11_gather_132 (fun v26 hF => ?_)
      refine lv_iload_n hx hb dX11_gather_135 rfl (lv_at hl 2 rfl) ?_
      refine m_sI0 hx hb hk hH hF dX11_gather_136 (fun ws H locs hH hF => ?_)
      refine lv_aload_n hx hb dX11_gather_137 rfl (lv_at hl 0 rfl) ?_
      refine m_gR hx hb hown hk hH hF fk_RX11_knotValue lk_RX11_35 dX11_gather_138 (fun v27 hF => ?_)
      refine lv_aload_n hx hb dX11_gather_141 rfl (lv_at hl 0 rfl) ?_
      refine m_gI hx hb hown hk hH hF fk_RX11_knots lk_RX11_111 dX11_gather_142 (fun v28 hF => ?_)
      refine lv_lload_n hx hb dX11_gather_145 rfl (lv_at hl 3 rfl) ?_
      refine lv_lload hx hb dX11_gather_146 (lv_at hl 4 rfl) ?_
      refine m_cSL hx hb hml hown hk hH hE.le hz (As := [.long e22, .long e23]) (rest := [.int v28, va_rf v27]) (t_X11_rounded l D cy z e22 e23) hF wd_865 wd_866 wd_38 wd_867 yn_X11_rounded ⟨Nat.le_trans (by decide) hfr, Nat.le_trans (by decide) hlo⟩ hl.1 (by first | exact Nat.le_of_ble_eq_true rfl | simp [m_cat, m_ci, m_cl, m_cf, m_cd, m_cr]) rfl dX11_gather_148 (fun c29 ws H locs cells slots hH hF => ?_)
      refine lv_l2i hx hb dX11_gather_151 rfl ?_
      refine m_sI0 hx hb hk hH hF dX11_gather_152 (fun ws H locs hH hF => ?_)
      refine lv_aload_n hx hb dX11_gather_153 rfl (lv_at hl 0 rfl) ?_
      refine lv_dup hx hb dX11_gather_154 rfl ?_
      refine m_gI hx hb hown hk hH hF fk_RX11_knots lk_RX11_111 dX11_gather_155 (fun v30 hF => ?_)
      refine lv_iconst (v := (1)) hx hb dX11_gather_158 (by decide) ?_
      refine lv_iadd hx hb dX11_gather_159 ?_
      refine m_pV hx hb hown hk hH hF fk_RX11_knots lk_RX11_111 pd_9 rfl rfl dX11_gather_160 (fun ws H locs hH hF => ?_)
      exact w_X11_gather_163 cx hE _ _ x0 x1 hrec hkk x2 _ _ _ _ _ _ (lv_sub hl [0, 1, 2] rfl) hH hF
theorem w_X11_gather_17 {l : Launch} {D : va_G} {cy : Nat → ClassId} {z : Nat} {p : Program} {e : Env} {R : Room} {s : State} {m : MethodId} {args : Array Value} {below : List Frame} {meth : Method} {c : Code} {ws0 wsf : WS} {rr : Int32} (cx : Cx D cy z RX11 cX11_gather 9 (some .int) 2 67 "gather" p R s m meth c) (hE : AC ws0 wsf R.cells R.slots) (x0 : Nat) (x1 : Int32) (k : St (Int32)) (hkk : At_ l D cy z p e R s m args below meth c ws0 wsf vI rr 9 169 [(0, .ref x0)] [] (k)) : ∀ (n : Nat) (x2 : Int32), At_ l D cy z p e R s m args below meth c ws0 wsf vI rr 9 17 [(0, .ref x0), (1, .int x1), (2, .int x2)] [] (l_X11_gather_17 x0 x1 k n x2) := by
  intro n
  induction n with
  | zero =>
    intro x2 ws H locs cells slots ls hl hH hF
    exact fl_t hF
  | succ n ih =>
    intro x2
    exact wb_X11_gather_17 cx hE x0 x1 (l_X11_gather_17 x0 x1 k n) k ih hkk x2
set_option maxHeartbeats 4000000 in
set_option maxRecDepth 100000 in
theorem t_X11_gather (l : Launch) (D : va_G) (cy : Nat → ClassId) (z : Nat) (o : Nat) (x1 : Int32) : MT l D cy z yX11_gather cX11_gather 9 (some .int) 2 67 (F_X11_gather o x1) vI [.ref o, .int x1] := by
  refine m_enter [(0, .ref o), (1, .int x1)] (by decide) (by first | rfl | simp [lv_args, m_cat, m_ci, m_cl, m_cf, m_cd, m_cr]) (by first | exact Nat.le_of_ble_eq_true rfl | simp [lg_sl, m_cat, m_ci, m_cl, m_cf, m_cd, m_cr]) ?_
  intro p e R s m args below meth c ws0 wsf rr cx hE ws H locs cells slots ls hl hH hF
  obtain ⟨hx, hb, hr, hml, hown, hk, hz, hlocks, hnm, hfr, hlo⟩ := id cx
  unfold F_X11_gather at hF
  refine lv_iload_n hx hb dX11_gather_0 rfl (lv_at hl 1 rfl) ?_
  refine m_cSI hx hb hml hown hk hH hE.le hz (As := [.int x1]) (rest := []) (t_X11_isSensor l D cy z x1) hF wd_843 wd_844 wd_38 wd_845 yn_X11_isSensor ⟨Nat.le_trans (by decide) hfr, Nat.le_trans (by decide) hlo⟩ hl.1 (by first | exact Nat.le_of_ble_eq_true rfl | simp [m_cat, m_ci, m_cl, m_cf, m_cd, m_cr]) rfl dX11_gather_1 (fun c1 ws H locs cells slots hH hF => ?_)
  refine lv_if_ne (tgt := 10) hx hb dX11_gather_4 (by decide) (fun hc1 => ?_) (fun hc1 => ?_)
  · have hF := bq_f hc1 hF
    refine lv_aload_n hx hb dX11_gather_10 rfl (lv_at hl 0 rfl) ?_
    refine lv_iconst (v := (0)) hx hb dX11_gather_11 (by decide) ?_
    refine m_pV hx hb hown hk hH hF fk_RX11_knots lk_RX11_111 pd_9 rfl rfl dX11_gather_12 (fun ws H locs hH hF => ?_)
    refine lv_iconst (v := (0)) hx hb dX11_gather_15 (by decide) ?_
    refine lv_istore_n (lv' := [(2, .int (0 : Int32)), (0, .ref o), (1, .int x1)]) hx hb dX11_gather_16 rfl hl (by decide) (by first | rfl | simp [m_cat, m_ci, m_cl, m_cf, m_cd, m_cr]) (fun ls hl => ?_)
    refine w_X11_gather_17 cx hE o x1 _ (fun ws H locs cells slots ls hl hH hF => ?_) _ _ _ _ _ _ _ _ (lv_sub hl [1, 2, 0] rfl) hH hF
    refine lv_aload_n hx hb dX11_gather_169 rfl (lv_at hl 0 rfl) ?_
    refine m_gI hx hb hown hk hH hF fk_RX11_knots lk_RX11_111 dX11_gather_170 (fun v31 hF => ?_)
    exact m_iret hx hb hr hlocks hH hE hF rfl dX11_gather_173
  · have hF := bq_t hc1 hF
    refine lv_bipush (v := (-2)) hx hb dX11_gather_7 (by decide) ?_
    exact m_iret hx hb hr hlocks hH hE hF rfl dX11_gather_9

def F_X11_mayWork (o : Nat) (x1 : Int32) : St (Int32) :=
  br ((500 : Int32) < x1) (rt (0 : Int32)) (bd (gI [10] 4 (some o)) fun v2 => br ((60 : Int32) ≤ v2) (rt (0 : Int32)) (rt (1 : Int32)))
set_option maxHeartbeats 4000000 in
set_option maxRecDepth 100000 in
theorem t_X11_mayWork (l : Launch) (D : va_G) (cy : Nat → ClassId) (z : Nat) (o : Nat) (x1 : Int32) : MT l D cy z yX11_mayWork cX11_mayWork 2 (some .boolean) 0 0 (F_X11_mayWork o x1) vI [.ref o, .int x1] := by
  refine m_enter [(0, .ref o), (1, .int x1)] (by decide) (by first | rfl | simp [lv_args, m_cat, m_ci, m_cl, m_cf, m_cd, m_cr]) (by first | exact Nat.le_of_ble_eq_true rfl | simp [lg_sl, m_cat, m_ci, m_cl, m_cf, m_cd, m_cr]) ?_
  intro p e R s m args below meth c ws0 wsf rr cx hE ws H locs cells slots ls hl hH hF
  obtain ⟨hx, hb, hr, hml, hown, hk, hz, hlocks, hnm, hfr, hlo⟩ := id cx
  unfold F_X11_mayWork at hF
  refine lv_iload_n hx hb dX11_mayWork_0 rfl (lv_at hl 1 rfl) ?_
  refine lv_sipush (v := (500)) hx hb dX11_mayWork_1 (by decide) ?_
  refine lv_icmp_gt (tgt := 20) hx hb dX11_mayWork_4 (by decide) (fun hc0 => ?_) (fun hc0 => ?_)
  · have hF := bq_t hc0 hF
    refine lv_iconst (v := (0)) hx hb dX11_mayWork_20 (by decide) ?_
    exact m_iret hx hb hr hlocks hH hE hF rfl dX11_mayWork_21
  · have hF := bq_f hc0 hF
    refine lv_aload_n hx hb dX11_mayWork_7 rfl (lv_at hl 0 rfl) ?_
    refine m_gI hx hb hown hk hH hF fk_RX11_curves lk_RX11_85 dX11_mayWork_8 (fun v2 hF => ?_)
    refine lv_bipush (v := (60)) hx hb dX11_mayWork_11 (by decide) ?_
    refine lv_icmp_ge (tgt := 20) hx hb dX11_mayWork_13 (by decide) (fun hc2 => ?_) (fun hc2 => ?_)
    · have hF := bq_t hc2 hF
      refine lv_iconst (v := (0)) hx hb dX11_mayWork_20 (by decide) ?_
      exact m_iret hx hb hr hlocks hH hE hF rfl dX11_mayWork_21
    · have hF := bq_f hc2 hF
      refine lv_iconst (v := (1)) hx hb dX11_mayWork_16 (by decide) ?_
      refine lv_goto (tgt := 21) hx hb dX11_mayWork_17 (by decide) ?_
      exact m_iret hx hb hr hlocks hH hE hF rfl dX11_mayWork_21

def F_X11_of (o : Nat) (x1 : Int32) (x2 : Int32) : St (Int32) :=
  bd (gR [10] 7 (some o)) fun v1 => bd (aI 0 v1 (((4096 : Int32) * x1) + x2)) fun v2 => rt v2
set_option maxHeartbeats 4000000 in
set_option maxRecDepth 100000 in
theorem t_X11_of (l : Launch) (D : va_G) (cy : Nat → ClassId) (z : Nat) (o : Nat) (x1 : Int32) (x2 : Int32) : MT l D cy z yX11_of cX11_of 3 (some .int) 0 0 (F_X11_of o x1 x2) vI [.ref o, .int x1, .int x2] := by
  refine m_enter [(0, .ref o), (1, .int x1), (2, .int x2)] (by decide) (by first | rfl | simp [lv_args, m_cat, m_ci, m_cl, m_cf, m_cd, m_cr]) (by first | exact Nat.le_of_ble_eq_true rfl | simp [lg_sl, m_cat, m_ci, m_cl, m_cf, m_cd, m_cr]) ?_
  intro p e R s m args below meth c ws0 wsf rr cx hE ws H locs cells slots ls hl hH hF
  obtain ⟨hx, hb, hr, hml, hown, hk, hz, hlocks, hnm, hfr, hlo⟩ := id cx
  unfold F_X11_of at hF
  refine lv_aload_n hx hb dX11_of_0 rfl (lv_at hl 0 rfl) ?_
  refine m_gR hx hb hown hk hH hF fk_RX11_value lk_RX11_29 dX11_of_1 (fun v1 hF => ?_)
  refine lv_sipush (v := (4096)) hx hb dX11_of_4 (by decide) ?_
  refine lv_iload_n hx hb dX11_of_7 rfl (lv_at hl 1 rfl) ?_
  refine lv_imul hx hb dX11_of_8 ?_
  refine lv_iload_n hx hb dX11_of_9 rfl (lv_at hl 2 rfl) ?_
  refine lv_iadd hx hb dX11_of_10 ?_
  refine m_aI0 hx hb hk hH hF dX11_of_11 (fun v2 hF => ?_)
  exact m_iret hx hb hr hlocks hH hE hF rfl dX11_of_12

def j_X11_clamp_121 (rec : Int32 → St (Int32)) (k : St (Int32)) (x0 : Nat) (x1 : Int32) (x2 : Int32) (x3 : Int32) (x4 : Int32) (x5 : Int32) (s0 : Option Nat) (s1 : Int32) (s2 : Int32) : St (Int32) :=
  bd (sI 0 s0 s1 s2) fun _ => rec (x5 + (1 : Int32))
def b_X11_clamp_63 (x0 : Nat) (x1 : Int32) (x2 : Int32) (x3 : Int32) (x4 : Int32) (rec : Int32 → St (Int32)) (k : St (Int32)) (x5 : Int32) : St (Int32) :=
  br ((4096 : Int32) ≤ x5) (k) (bd (gR [10] 7 (some x0)) fun v19 => bd (dr [10] (some x0)) fun q21 => bd (F_X11_of q21.1 x1 x5) fun c20 => br (x2 ≤ c20) (bd (dr [10] (some x0)) fun q24 => bd (F_X11_of q24.1 x1 x5) fun c23 => br (c23 ≤ x3) (bd (dr [10] (some x0)) fun q27 => bd (F_X11_of q27.1 x1 x5) fun c26 => j_X11_clamp_121 rec k x0 x1 x2 x3 x4 x5 v19 (((4096 : Int32) * x4) + x5) c26) (j_X11_clamp_121 rec k x0 x1 x2 x3 x4 x5 v19 (((4096 : Int32) * x4) + x5) x3)) (j_X11_clamp_121 rec k x0 x1 x2 x3 x4 x5 v19 (((4096 : Int32) * x4) + x5) x2))
def l_X11_clamp_63 (x0 : Nat) (x1 : Int32) (x2 : Int32) (x3 : Int32) (x4 : Int32) (k : St (Int32)) : Nat → Int32 → St (Int32)
  | 0 => fun _ => fl
  | n + 1 => fun x5 => b_X11_clamp_63 x0 x1 x2 x3 x4 (l_X11_clamp_63 x0 x1 x2 x3 x4 k n) k x5
def F_X11_clamp (o : Nat) (x1 : Int32) (x2 : Int32) (x3 : Int32) : St (Int32) :=
  bd (dr [10] (some o)) fun q2 => bd (F_X11_isCurve q2.1 x1) fun c1 => br (c1 = 0) (rt (-2 : Int32)) (br (x3 < x2) (rt (-2 : Int32)) (bd (F_X11_isValue x2) fun c5 => br (c5 = 0) (rt (-2 : Int32)) (bd (F_X11_isValue x3) fun c7 => br (c7 = 0) (rt (-2 : Int32)) (bd (gR [10] 6 (some o)) fun v9 => bd (aI 0 v9 x1) fun v10 => bd (dr [10] (some o)) fun q12 => bd (F_X11_mayWork q12.1 (v10 + (1 : Int32))) fun c11 => br (c11 = 0) (rt (-2 : Int32)) (bd (gR [10] 6 (some o)) fun v14 => bd (aI 0 v14 x1) fun v15 => bd (dr [10] (some o)) fun q17 => bd (F_X11_newCurve q17.1 (2 : Int32) (v15 + (1 : Int32))) fun c16 => l_X11_clamp_63 o x1 x2 x3 c16 (rt c16) FU (0 : Int32))))))
set_option maxHeartbeats 4000000 in
set_option maxRecDepth 100000 in
theorem w_X11_clamp_121 {l : Launch} {D : va_G} {cy : Nat → ClassId} {z : Nat} {p : Program} {e : Env} {R : Room} {s : State} {m : MethodId} {args : Array Value} {below : List Frame} {meth : Method} {c : Code} {ws0 wsf : WS} {rr : Int32} (cx : Cx D cy z RX11 cX11_clamp 6 (some .int) 1 40 "clamp" p R s m meth c) (hE : AC ws0 wsf R.cells R.slots) (rec : Int32 → St (Int32)) (k : St (Int32)) (x0 : Nat) (x1 : Int32) (x2 : Int32) (x3 : Int32) (x4 : Int32) (hrec : ∀ (x5 : Int32), At_ l D cy z p e R s m args below meth c ws0 wsf vI rr 6 63 [(0, .ref x0), (1, .int x1), (2, .int x2), (3, .int x3), (4, .int x4), (5, .int x5)] [] (rec x5)) (hkk : At_ l D cy z p e R s m args below meth c ws0 wsf vI rr 6 128 [(4, .int x4)] [] (k)) (x5 : Int32) (s0 : Option Nat) (s1 : Int32) (s2 : Int32) : At_ l D cy z p e R s m args below meth c ws0 wsf vI rr 6 121 [(0, .ref x0), (1, .int x1), (2, .int x2), (3, .int x3), (4, .int x4), (5, .int x5)] [.int s2, .int s1, va_rf s0] (j_X11_clamp_121 rec k x0 x1 x2 x3 x4 x5 s0 s1 s2) := by
  intro ws H locs cells slots ls hl hH hF
  obtain ⟨hx, hb, hr, hml, hown, hk, hz, hlocks, hnm, hfr, hlo⟩ := id cx
  unfold j_X11_clamp_121 at hF
  refine m_sI0 hx hb hk hH hF dX11_clamp_121 (fun ws H locs hH hF => ?_)
  refine lv_iinc (v := (x5 + (1 : Int32))) (lv' := [(5, .int (x5 + (1 : Int32))), (0, .ref x0), (1, .int x1), (2, .int x2), (3, .int x3), (4, .int x4)]) hx hb dX11_clamp_122 hl (k := 5) rfl (by first | rfl | (congr 1)) (by decide) (by first | rfl | simp [m_cat, m_ci, m_cl, m_cf, m_cd, m_cr]) (fun ls hl => ?_)
  refine lv_goto (tgt := 63) hx hb dX11_clamp_125 (by decide) ?_
  exact hrec _ _ _ _ _ _ _ (lv_sub hl [1, 2, 3, 4, 5, 0] rfl) hH hF
set_option maxHeartbeats 4000000 in
set_option maxRecDepth 100000 in
theorem wb_X11_clamp_63 {l : Launch} {D : va_G} {cy : Nat → ClassId} {z : Nat} {p : Program} {e : Env} {R : Room} {s : State} {m : MethodId} {args : Array Value} {below : List Frame} {meth : Method} {c : Code} {ws0 wsf : WS} {rr : Int32} (cx : Cx D cy z RX11 cX11_clamp 6 (some .int) 1 40 "clamp" p R s m meth c) (hE : AC ws0 wsf R.cells R.slots) (x0 : Nat) (x1 : Int32) (x2 : Int32) (x3 : Int32) (x4 : Int32) (rec : Int32 → St (Int32)) (k : St (Int32)) (hrec : ∀ (x5 : Int32), At_ l D cy z p e R s m args below meth c ws0 wsf vI rr 6 63 [(0, .ref x0), (1, .int x1), (2, .int x2), (3, .int x3), (4, .int x4), (5, .int x5)] [] (rec x5)) (hkk : At_ l D cy z p e R s m args below meth c ws0 wsf vI rr 6 128 [(4, .int x4)] [] (k)) (x5 : Int32) : At_ l D cy z p e R s m args below meth c ws0 wsf vI rr 6 63 [(0, .ref x0), (1, .int x1), (2, .int x2), (3, .int x3), (4, .int x4), (5, .int x5)] [] (b_X11_clamp_63 x0 x1 x2 x3 x4 rec k x5) := by
  intro ws H locs cells slots ls hl hH hF
  obtain ⟨hx, hb, hr, hml, hown, hk, hz, hlocks, hnm, hfr, hlo⟩ := id cx
  unfold b_X11_clamp_63 at hF
  refine lv_iload hx hb dX11_clamp_63 (lv_at hl 5 rfl) ?_
  refine lv_sipush (v := (4096)) hx hb dX11_clamp_65 (by decide) ?_
  refine lv_icmp_ge (tgt := 128) hx hb dX11_clamp_68 (by decide) (fun hc17 => ?_) (fun hc17 => ?_)
  · have hF := bq_t hc17 hF
    exact hkk _ _ _ _ _ _ (lv_sub hl [4] rfl) hH hF
  · have hF := bq_f hc17 hF
    refine lv_aload_n hx hb dX11_clamp_71 rfl (lv_at hl 0 rfl) ?_
    refine m_gR hx hb hown hk hH hF fk_RX11_value lk_RX11_29 dX11_clamp_72 (fun v19 hF => ?_)
    refine lv_sipush (v := (4096)) hx hb dX11_clamp_75 (by decide) ?_
    refine lv_iload hx hb dX11_clamp_78 (lv_at hl 4 rfl) ?_
    refine lv_imul hx hb dX11_clamp_80 ?_
    refine lv_iload hx hb dX11_clamp_81 (lv_at hl 5 rfl) ?_
    refine lv_iadd hx hb dX11_clamp_83 ?_
    refine lv_aload_n hx hb dX11_clamp_84 rfl (lv_at hl 0 rfl) ?_
    refine lv_iload_n hx hb dX11_clamp_85 rfl (lv_at hl 1 rfl) ?_
    refine lv_iload hx hb dX11_clamp_86 (lv_at hl 5 rfl) ?_
    refine m_cVI hx hb hml hown hk hH hE.le hz (F := fun q21 => F_X11_of q21.1 x1 x5) (C := RX11) (T := TX11) (N := 22) rfl (As := [.int x1, .int x5]) (rest := [.int (((4096 : Int32) * x4) + x5), va_rf v19]) (fun o => t_X11_of l D cy z o x1 x5) hF wd_914 wd_916 wd_38 wd_917 wd_21 yn_X11_of ⟨Nat.le_trans (by decide) hfr, Nat.le_trans (by decide) hlo⟩ hl.1 (by first | exact Nat.le_of_ble_eq_true rfl | simp [m_cat, m_ci, m_cl, m_cf, m_cd, m_cr]) rfl dX11_clamp_88 (fun c20 ws H locs cells slots hH hF => ?_)
    refine lv_iload_n hx hb dX11_clamp_91 rfl (lv_at hl 2 rfl) ?_
    refine lv_icmp_ge (tgt := 99) hx hb dX11_clamp_92 (by decide) (fun hc21 => ?_) (fun hc21 => ?_)
    · have hF := bq_t hc21 hF
      refine lv_aload_n hx hb dX11_clamp_99 rfl (lv_at hl 0 rfl) ?_
      refine lv_iload_n hx hb dX11_clamp_100 rfl (lv_at hl 1 rfl) ?_
      refine lv_iload hx hb dX11_clamp_101 (lv_at hl 5 rfl) ?_
      refine m_cVI hx hb hml hown hk hH hE.le hz (F := fun q24 => F_X11_of q24.1 x1 x5) (C := RX11) (T := TX11) (N := 22) rfl (As := [.int x1, .int x5]) (rest := [.int (((4096 : Int32) * x4) + x5), va_rf v19]) (fun o => t_X11_of l D cy z o x1 x5) hF wd_914 wd_916 wd_38 wd_917 wd_21 yn_X11_of ⟨Nat.le_trans (by decide) hfr, Nat.le_trans (by decide) hlo⟩ hl.1 (by first | exact Nat.le_of_ble_eq_true rfl | simp [m_cat, m_ci, m_cl, m_cf, m_cd, m_cr]) rfl dX11_clamp_103 (fun c23 ws H locs cells slots hH hF => ?_)
      refine lv_iload_n hx hb dX11_clamp_106 rfl (lv_at hl 3 rfl) ?_
      refine lv_icmp_le (tgt := 114) hx hb dX11_clamp_107 (by decide) (fun hc24 => ?_) (fun hc24 => ?_)
      · have hF := bq_t hc24 hF
        refine lv_aload_n hx hb dX11_clamp_114 rfl (lv_at hl 0 rfl) ?_
        refine lv_iload_n hx hb dX11_clamp_115 rfl (lv_at hl 1 rfl) ?_
        refine lv_iload hx hb dX11_clamp_116 (lv_at hl 5 rfl) ?_
        refine m_cVI hx hb hml hown hk hH hE.le hz (F := fun q27 => F_X11_of q27.1 x1 x5) (C := RX11) (T := TX11) (N := 22) rfl (As := [.int x1, .int x5]) (rest := [.int (((4096 : Int32) * x4) + x5), va_rf v19]) (fun o => t_X11_of l D cy z o x1 x5) hF wd_914 wd_916 wd_38 wd_917 wd_21 yn_X11_of ⟨Nat.le_trans (by decide) hfr, Nat.le_trans (by decide) hlo⟩ hl.1 (by first | exact Nat.le_of_ble_eq_true rfl | simp [m_cat, m_ci, m_cl, m_cf, m_cd, m_cr]) rfl dX11_clamp_118 (fun c26 ws H locs cells slots hH hF => ?_)
        exact w_X11_clamp_121 cx hE _ _ x0 x1 x2 x3 x4 hrec hkk x5 v19 (((4096 : Int32) * x4) + x5) c26 _ _ _ _ _ _ (lv_sub hl [0, 1, 2, 3, 4, 5] rfl) hH hF
      · have hF := bq_f hc24 hF
        refine lv_iload_n hx hb dX11_clamp_110 rfl (lv_at hl 3 rfl) ?_
        refine lv_goto (tgt := 121) hx hb dX11_clamp_111 (by decide) ?_
        exact w_X11_clamp_121 cx hE _ _ x0 x1 x2 x3 x4 hrec hkk x5 v19 (((4096 : Int32) * x4) + x5) x3 _ _ _ _ _ _ (lv_sub hl [0, 1, 2, 3, 4, 5] rfl) hH hF
    · have hF := bq_f hc21 hF
      refine lv_iload_n hx hb dX11_clamp_95 rfl (lv_at hl 2 rfl) ?_
      refine lv_goto (tgt := 121) hx hb dX11_clamp_96 (by decide) ?_
      exact w_X11_clamp_121 cx hE _ _ x0 x1 x2 x3 x4 hrec hkk x5 v19 (((4096 : Int32) * x4) + x5) x2 _ _ _ _ _ _ (lv_sub hl [0, 1, 2, 3, 4, 5] rfl) hH hF
theorem w_X11_clamp_63 {l : Launch} {D : va_G} {cy : Nat → ClassId} {z : Nat} {p : Program} {e : Env} {R : Room} {s : State} {m : MethodId} {args : Array Value} {below : List Frame} {meth : Method} {c : Code} {ws0 wsf : WS} {rr : Int32} (cx : Cx D cy z RX11 cX11_clamp 6 (some .int) 1 40 "clamp" p R s m meth c) (hE : AC ws0 wsf R.cells R.slots) (x0 : Nat) (x1 : Int32) (x2 : Int32) (x3 : Int32) (x4 : Int32) (k : St (Int32)) (hkk : At_ l D cy z p e R s m args below meth c ws0 wsf vI rr 6 128 [(4, .int x4)] [] (k)) : ∀ (n : Nat) (x5 : Int32), At_ l D cy z p e R s m args below meth c ws0 wsf vI rr 6 63 [(0, .ref x0), (1, .int x1), (2, .int x2), (3, .int x3), (4, .int x4), (5, .int x5)] [] (l_X11_clamp_63 x0 x1 x2 x3 x4 k n x5) := by
  intro n
  induction n with
  | zero =>
    intro x5 ws H locs cells slots ls hl hH hF
    exact fl_t hF
  | succ n ih =>
    intro x5
    exact wb_X11_clamp_63 cx hE x0 x1 x2 x3 x4 (l_X11_clamp_63 x0 x1 x2 x3 x4 k n) k ih hkk x5
set_option maxHeartbeats 4000000 in
set_option maxRecDepth 100000 in
theorem t_X11_clamp (l : Launch) (D : va_G) (cy : Nat → ClassId) (z : Nat) (o : Nat) (x1 : Int32) (x2 : Int32) (x3 : Int32) : MT l D cy z yX11_clamp cX11_clamp 6 (some .int) 1 40 (F_X11_clamp o x1 x2 x3) vI [.ref o, .int x1, .int x2, .int x3] := by
  refine m_enter [(0, .ref o), (1, .int x1), (2, .int x2), (3, .int x3)] (by decide) (by first | rfl | simp [lv_args, m_cat, m_ci, m_cl, m_cf, m_cd, m_cr]) (by first | exact Nat.le_of_ble_eq_true rfl | simp [lg_sl, m_cat, m_ci, m_cl, m_cf, m_cd, m_cr]) ?_
  intro p e R s m args below meth c ws0 wsf rr cx hE ws H locs cells slots ls hl hH hF
  obtain ⟨hx, hb, hr, hml, hown, hk, hz, hlocks, hnm, hfr, hlo⟩ := id cx
  unfold F_X11_clamp at hF
  refine lv_aload_n hx hb dX11_clamp_0 rfl (lv_at hl 0 rfl) ?_
  refine lv_iload_n hx hb dX11_clamp_1 rfl (lv_at hl 1 rfl) ?_
  refine m_cVI hx hb hml hown hk hH hE.le hz (F := fun q2 => F_X11_isCurve q2.1 x1) (C := RX11) (T := TX11) (N := 22) rfl (As := [.int x1]) (rest := []) (fun o => t_X11_isCurve l D cy z o x1) hF wd_903 wd_905 wd_38 wd_906 wd_19 yn_X11_isCurve ⟨Nat.le_trans (by decide) hfr, Nat.le_trans (by decide) hlo⟩ hl.1 (by first | exact Nat.le_of_ble_eq_true rfl | simp [m_cat, m_ci, m_cl, m_cf, m_cd, m_cr]) rfl dX11_clamp_2 (fun c1 ws H locs cells slots hH hF => ?_)
  refine lv_if_eq (tgt := 42) hx hb dX11_clamp_5 (by decide) (fun hc2 => ?_) (fun hc2 => ?_)
  · have hF := bq_t hc2 hF
    refine lv_bipush (v := (-2)) hx hb dX11_clamp_42 (by decide) ?_
    exact m_iret hx hb hr hlocks hH hE hF rfl dX11_clamp_44
  · have hF := bq_f hc2 hF
    refine lv_iload_n hx hb dX11_clamp_8 rfl (lv_at hl 2 rfl) ?_
    refine lv_iload_n hx hb dX11_clamp_9 rfl (lv_at hl 3 rfl) ?_
    refine lv_icmp_gt (tgt := 42) hx hb dX11_clamp_10 (by decide) (fun hc3 => ?_) (fun hc3 => ?_)
    · have hF := bq_t hc3 hF
      refine lv_bipush (v := (-2)) hx hb dX11_clamp_42 (by decide) ?_
      exact m_iret hx hb hr hlocks hH hE hF rfl dX11_clamp_44
    · have hF := bq_f hc3 hF
      refine lv_iload_n hx hb dX11_clamp_13 rfl (lv_at hl 2 rfl) ?_
      refine m_cSI hx hb hml hown hk hH hE.le hz (As := [.int x2]) (rest := []) (t_X11_isValue l D cy z x2) hF wd_907 wd_908 wd_38 wd_909 yn_X11_isValue ⟨Nat.le_trans (by decide) hfr, Nat.le_trans (by decide) hlo⟩ hl.1 (by first | exact Nat.le_of_ble_eq_true rfl | simp [m_cat, m_ci, m_cl, m_cf, m_cd, m_cr]) rfl dX11_clamp_14 (fun c5 ws H locs cells slots hH hF => ?_)
      refine lv_if_eq (tgt := 42) hx hb dX11_clamp_17 (by decide) (fun hc5 => ?_) (fun hc5 => ?_)
      · have hF := bq_t hc5 hF
        refine lv_bipush (v := (-2)) hx hb dX11_clamp_42 (by decide) ?_
        exact m_iret hx hb hr hlocks hH hE hF rfl dX11_clamp_44
      · have hF := bq_f hc5 hF
        refine lv_iload_n hx hb dX11_clamp_20 rfl (lv_at hl 3 rfl) ?_
        refine m_cSI hx hb hml hown hk hH hE.le hz (As := [.int x3]) (rest := []) (t_X11_isValue l D cy z x3) hF wd_907 wd_908 wd_38 wd_909 yn_X11_isValue ⟨Nat.le_trans (by decide) hfr, Nat.le_trans (by decide) hlo⟩ hl.1 (by first | exact Nat.le_of_ble_eq_true rfl | simp [m_cat, m_ci, m_cl, m_cf, m_cd, m_cr]) rfl dX11_clamp_21 (fun c7 ws H locs cells slots hH hF => ?_)
        refine lv_if_eq (tgt := 42) hx hb dX11_clamp_24 (by decide) (fun hc7 => ?_) (fun hc7 => ?_)
        · have hF := bq_t hc7 hF
          refine lv_bipush (v := (-2)) hx hb dX11_clamp_42 (by decide) ?_
          exact m_iret hx hb hr hlocks hH hE hF rfl dX11_clamp_44
        · have hF := bq_f hc7 hF
          refine lv_aload_n hx hb dX11_clamp_27 rfl (lv_at hl 0 rfl) ?_
          refine lv_aload_n hx hb dX11_clamp_28 rfl (lv_at hl 0 rfl) ?_
          refine m_gR hx hb hown hk hH hF fk_RX11_work lk_RX11_25 dX11_clamp_29 (fun v9 hF => ?_)
          refine lv_iload_n hx hb dX11_clamp_32 rfl (lv_at hl 1 rfl) ?_
          refine m_aI0 hx hb hk hH hF dX11_clamp_33 (fun v10 hF => ?_)
          refine lv_iconst (v := (1)) hx hb dX11_clamp_34 (by decide) ?_
          refine lv_iadd hx hb dX11_clamp_35 ?_
          refine m_cVI hx hb hml hown hk hH hE.le hz (F := fun q12 => F_X11_mayWork q12.1 (v10 + (1 : Int32))) (C := RX11) (T := TX11) (N := 22) rfl (As := [.int (v10 + (1 : Int32))]) (rest := []) (fun o => t_X11_mayWork l D cy z o (v10 + (1 : Int32))) hF wd_910 wd_912 wd_38 wd_913 wd_20 yn_X11_mayWork ⟨Nat.le_trans (by decide) hfr, Nat.le_trans (by decide) hlo⟩ hl.1 (by first | exact Nat.le_of_ble_eq_true rfl | simp [m_cat, m_ci, m_cl, m_cf, m_cd, m_cr]) rfl dX11_clamp_36 (fun c11 ws H locs cells slots hH hF => ?_)
          refine lv_if_ne (tgt := 45) hx hb dX11_clamp_39 (by decide) (fun hc12 => ?_) (fun hc12 => ?_)
          · have hF := bq_f hc12 hF
            refine lv_aload_n hx hb dX11_clamp_45 rfl (lv_at hl 0 rfl) ?_
            refine lv_iconst (v := (2)) hx hb dX11_clamp_46 (by decide) ?_
            refine lv_aload_n hx hb dX11_clamp_47 rfl (lv_at hl 0 rfl) ?_
            refine m_gR hx hb hown hk hH hF fk_RX11_work lk_RX11_25 dX11_clamp_48 (fun v14 hF => ?_)
            refine lv_iload_n hx hb dX11_clamp_51 rfl (lv_at hl 1 rfl) ?_
            refine m_aI0 hx hb hk hH hF dX11_clamp_52 (fun v15 hF => ?_)
            refine lv_iconst (v := (1)) hx hb dX11_clamp_53 (by decide) ?_
            refine lv_iadd hx hb dX11_clamp_54 ?_
            refine m_cVI hx hb hml hown hk hH hE.le hz (F := fun q17 => F_X11_newCurve q17.1 (2 : Int32) (v15 + (1 : Int32))) (C := RX11) (T := TX11) (N := 22) rfl (As := [.int (2 : Int32), .int (v15 + (1 : Int32))]) (rest := []) (fun o => t_X11_newCurve l D cy z o (2 : Int32) (v15 + (1 : Int32))) hF wd_861 wd_863 wd_38 wd_864 wd_17 yn_X11_newCurve ⟨Nat.le_trans (by decide) hfr, Nat.le_trans (by decide) hlo⟩ hl.1 (by first | exact Nat.le_of_ble_eq_true rfl | simp [m_cat, m_ci, m_cl, m_cf, m_cd, m_cr]) rfl dX11_clamp_55 (fun c16 ws H locs cells slots hH hF => ?_)
            refine lv_istore (lv' := [(4, .int c16), (0, .ref o), (1, .int x1), (2, .int x2), (3, .int x3)]) hx hb dX11_clamp_58 hl (by decide) (by first | rfl | simp [m_cat, m_ci, m_cl, m_cf, m_cd, m_cr]) (fun ls hl => ?_)
            refine lv_iconst (v := (0)) hx hb dX11_clamp_60 (by decide) ?_
            refine lv_istore (lv' := [(5, .int (0 : Int32)), (4, .int c16), (0, .ref o), (1, .int x1), (2, .int x2), (3, .int x3)]) hx hb dX11_clamp_61 hl (by decide) (by first | rfl | simp [m_cat, m_ci, m_cl, m_cf, m_cd, m_cr]) (fun ls hl => ?_)
            refine w_X11_clamp_63 cx hE o x1 x2 x3 c16 _ (fun ws H locs cells slots ls hl hH hF => ?_) _ _ _ _ _ _ _ _ (lv_sub hl [2, 3, 4, 5, 1, 0] rfl) hH hF
            refine lv_iload hx hb dX11_clamp_128 (lv_at hl 0 rfl) ?_
            exact m_iret hx hb hr hlocks hH hE hF rfl dX11_clamp_130
          · have hF := bq_t hc12 hF
            refine lv_bipush (v := (-2)) hx hb dX11_clamp_42 (by decide) ?_
            exact m_iret hx hb hr hlocks hH hE hF rfl dX11_clamp_44

def j_X11_dead_126 (rec : Int32 → St (Int32)) (k : St (Int32)) (x0 : Nat) (x1 : Int32) (x2 : Int32) (x3 : Int32) (x4 : Int32) (x5 : Int32) (x6 : Int32) (s0 : Option Nat) (s1 : Int32) (s2 : Int32) : St (Int32) :=
  bd (sI 0 s0 s1 s2) fun _ => rec (x6 + (1 : Int32))
def j_X11_dead_119 (rec : Int32 → St (Int32)) (k : St (Int32)) (x0 : Nat) (x1 : Int32) (x2 : Int32) (x3 : Int32) (x4 : Int32) (x5 : Int32) (x6 : Int32) (s0 : Option Nat) (s1 : Int32) : St (Int32) :=
  bd (dr [10] (some x0)) fun q26 => bd (F_X11_of q26.1 x1 x6) fun c25 => j_X11_dead_126 rec k x0 x1 x2 x3 x4 x5 x6 s0 s1 c25
def b_X11_dead_71 (x0 : Nat) (x1 : Int32) (x2 : Int32) (x3 : Int32) (x4 : Int32) (x5 : Int32) (rec : Int32 → St (Int32)) (k : St (Int32)) (x6 : Int32) : St (Int32) :=
  br ((4096 : Int32) ≤ x6) (k) (bd (gR [10] 7 (some x0)) fun v21 => bd (dr [10] (some x0)) fun q23 => bd (F_X11_of q23.1 x1 x6) fun c22 => br (c22 < x2) (j_X11_dead_119 rec k x0 x1 x2 x3 x4 x5 x6 v21 (((4096 : Int32) * x5) + x6)) (bd (dr [10] (some x0)) fun q28 => bd (F_X11_of q28.1 x1 x6) fun c27 => br (x3 < c27) (j_X11_dead_119 rec k x0 x1 x2 x3 x4 x5 x6 v21 (((4096 : Int32) * x5) + x6)) (j_X11_dead_126 rec k x0 x1 x2 x3 x4 x5 x6 v21 (((4096 : Int32) * x5) + x6) x4)))
def l_X11_dead_71 (x0 : Nat) (x1 : Int32) (x2 : Int32) (x3 : Int32) (x4 : Int32) (x5 : Int32) (k : St (Int32)) : Nat → Int32 → St (Int32)
  | 0 => fun _ => fl
  | n + 1 => fun x6 => b_X11_dead_71 x0 x1 x2 x3 x4 x5 (l_X11_dead_71 x0 x1 x2 x3 x4 x5 k n) k x6
def F_X11_dead (o : Nat) (x1 : Int32) (x2 : Int32) (x3 : Int32) (x4 : Int32) : St (Int32) :=
  bd (dr [10] (some o)) fun q2 => bd (F_X11_isCurve q2.1 x1) fun c1 => br (c1 = 0) (rt (-2 : Int32)) (br (x3 < x2) (rt (-2 : Int32)) (bd (F_X11_isValue x2) fun c5 => br (c5 = 0) (rt (-2 : Int32)) (bd (F_X11_isValue x3) fun c7 => br (c7 = 0) (rt (-2 : Int32)) (bd (F_X11_isValue x4) fun c9 => br (c9 = 0) (rt (-2 : Int32)) (bd (gR [10] 6 (some o)) fun v11 => bd (aI 0 v11 x1) fun v12 => bd (dr [10] (some o)) fun q14 => bd (F_X11_mayWork q14.1 (v12 + (1 : Int32))) fun c13 => br (c13 = 0) (rt (-2 : Int32)) (bd (gR [10] 6 (some o)) fun v16 => bd (aI 0 v16 x1) fun v17 => bd (dr [10] (some o)) fun q19 => bd (F_X11_newCurve q19.1 (3 : Int32) (v17 + (1 : Int32))) fun c18 => l_X11_dead_71 o x1 x2 x3 x4 c18 (rt c18) FU (0 : Int32)))))))
set_option maxHeartbeats 4000000 in
set_option maxRecDepth 100000 in
theorem w_X11_dead_126 {l : Launch} {D : va_G} {cy : Nat → ClassId} {z : Nat} {p : Program} {e : Env} {R : Room} {s : State} {m : MethodId} {args : Array Value} {below : List Frame} {meth : Method} {c : Code} {ws0 wsf : WS} {rr : Int32} (cx : Cx D cy z RX11 cX11_dead 7 (some .int) 1 40 "dead" p R s m meth c) (hE : AC ws0 wsf R.cells R.slots) (rec : Int32 → St (Int32)) (k : St (Int32)) (x0 : Nat) (x1 : Int32) (x2 : Int32) (x3 : Int32) (x4 : Int32) (x5 : Int32) (hrec : ∀ (x6 : Int32), At_ l D cy z p e R s m args below meth c ws0 wsf vI rr 7 71 [(0, .ref x0), (1, .int x1), (2, .int x2), (3, .int x3), (4, .int x4), (5, .int x5), (6, .int x6)] [] (rec x6)) (hkk : At_ l D cy z p e R s m args below meth c ws0 wsf vI rr 7 133 [(5, .int x5)] [] (k)) (x6 : Int32) (s0 : Option Nat) (s1 : Int32) (s2 : Int32) : At_ l D cy z p e R s m args below meth c ws0 wsf vI rr 7 126 [(0, .ref x0), (1, .int x1), (2, .int x2), (3, .int x3), (4, .int x4), (5, .int x5), (6, .int x6)] [.int s2, .int s1, va_rf s0] (j_X11_dead_126 rec k x0 x1 x2 x3 x4 x5 x6 s0 s1 s2) := by
  intro ws H locs cells slots ls hl hH hF
  obtain ⟨hx, hb, hr, hml, hown, hk, hz, hlocks, hnm, hfr, hlo⟩ := id cx
  unfold j_X11_dead_126 at hF
  refine m_sI0 hx hb hk hH hF dX11_dead_126 (fun ws H locs hH hF => ?_)
  refine lv_iinc (v := (x6 + (1 : Int32))) (lv' := [(6, .int (x6 + (1 : Int32))), (0, .ref x0), (1, .int x1), (2, .int x2), (3, .int x3), (4, .int x4), (5, .int x5)]) hx hb dX11_dead_127 hl (k := 6) rfl (by first | rfl | (congr 1)) (by decide) (by first | rfl | simp [m_cat, m_ci, m_cl, m_cf, m_cd, m_cr]) (fun ls hl => ?_)
  refine lv_goto (tgt := 71) hx hb dX11_dead_130 (by decide) ?_
  exact hrec _ _ _ _ _ _ _ (lv_sub hl [1, 2, 3, 4, 5, 6, 0] rfl) hH hF
set_option maxHeartbeats 4000000 in
set_option maxRecDepth 100000 in
theorem w_X11_dead_119 {l : Launch} {D : va_G} {cy : Nat → ClassId} {z : Nat} {p : Program} {e : Env} {R : Room} {s : State} {m : MethodId} {args : Array Value} {below : List Frame} {meth : Method} {c : Code} {ws0 wsf : WS} {rr : Int32} (cx : Cx D cy z RX11 cX11_dead 7 (some .int) 1 40 "dead" p R s m meth c) (hE : AC ws0 wsf R.cells R.slots) (rec : Int32 → St (Int32)) (k : St (Int32)) (x0 : Nat) (x1 : Int32) (x2 : Int32) (x3 : Int32) (x4 : Int32) (x5 : Int32) (hrec : ∀ (x6 : Int32), At_ l D cy z p e R s m args below meth c ws0 wsf vI rr 7 71 [(0, .ref x0), (1, .int x1), (2, .int x2), (3, .int x3), (4, .int x4), (5, .int x5), (6, .int x6)] [] (rec x6)) (hkk : At_ l D cy z p e R s m args below meth c ws0 wsf vI rr 7 133 [(5, .int x5)] [] (k)) (x6 : Int32) (s0 : Option Nat) (s1 : Int32) : At_ l D cy z p e R s m args below meth c ws0 wsf vI rr 7 119 [(0, .ref x0), (1, .int x1), (2, .int x2), (3, .int x3), (4, .int x4), (5, .int x5), (6, .int x6)] [.int s1, va_rf s0] (j_X11_dead_119 rec k x0 x1 x2 x3 x4 x5 x6 s0 s1) := by
  intro ws H locs cells slots ls hl hH hF
  obtain ⟨hx, hb, hr, hml, hown, hk, hz, hlocks, hnm, hfr, hlo⟩ := id cx
  unfold j_X11_dead_119 at hF
  refine lv_aload_n hx hb dX11_dead_119 rfl (lv_at hl 0 rfl) ?_
  refine lv_iload_n hx hb dX11_dead_120 rfl (lv_at hl 1 rfl) ?_
  refine lv_iload hx hb dX11_dead_121 (lv_at hl 6 rfl) ?_
  refine m_cVI hx hb hml hown hk hH hE.le hz (F := fun q26 => F_X11_of q26.1 x1 x6) (C := RX11) (T := TX11) (N := 22) rfl (As := [.int x1, .int x6]) (rest := [.int s1, va_rf s0]) (fun o => t_X11_of l D cy z o x1 x6) hF wd_914 wd_916 wd_38 wd_917 wd_21 yn_X11_of ⟨Nat.le_trans (by decide) hfr, Nat.le_trans (by decide) hlo⟩ hl.1 (by first | exact Nat.le_of_ble_eq_true rfl | simp [m_cat, m_ci, m_cl, m_cf, m_cd, m_cr]) rfl dX11_dead_123 (fun c25 ws H locs cells slots hH hF => ?_)
  exact w_X11_dead_126 cx hE _ _ x0 x1 x2 x3 x4 x5 hrec hkk x6 s0 s1 c25 _ _ _ _ _ _ (lv_sub hl [0, 1, 2, 3, 4, 5, 6] rfl) hH hF
set_option maxHeartbeats 4000000 in
set_option maxRecDepth 100000 in
theorem wb_X11_dead_71 {l : Launch} {D : va_G} {cy : Nat → ClassId} {z : Nat} {p : Program} {e : Env} {R : Room} {s : State} {m : MethodId} {args : Array Value} {below : List Frame} {meth : Method} {c : Code} {ws0 wsf : WS} {rr : Int32} (cx : Cx D cy z RX11 cX11_dead 7 (some .int) 1 40 "dead" p R s m meth c) (hE : AC ws0 wsf R.cells R.slots) (x0 : Nat) (x1 : Int32) (x2 : Int32) (x3 : Int32) (x4 : Int32) (x5 : Int32) (rec : Int32 → St (Int32)) (k : St (Int32)) (hrec : ∀ (x6 : Int32), At_ l D cy z p e R s m args below meth c ws0 wsf vI rr 7 71 [(0, .ref x0), (1, .int x1), (2, .int x2), (3, .int x3), (4, .int x4), (5, .int x5), (6, .int x6)] [] (rec x6)) (hkk : At_ l D cy z p e R s m args below meth c ws0 wsf vI rr 7 133 [(5, .int x5)] [] (k)) (x6 : Int32) : At_ l D cy z p e R s m args below meth c ws0 wsf vI rr 7 71 [(0, .ref x0), (1, .int x1), (2, .int x2), (3, .int x3), (4, .int x4), (5, .int x5), (6, .int x6)] [] (b_X11_dead_71 x0 x1 x2 x3 x4 x5 rec k x6) := by
  intro ws H locs cells slots ls hl hH hF
  obtain ⟨hx, hb, hr, hml, hown, hk, hz, hlocks, hnm, hfr, hlo⟩ := id cx
  unfold b_X11_dead_71 at hF
  refine lv_iload hx hb dX11_dead_71 (lv_at hl 6 rfl) ?_
  refine lv_sipush (v := (4096)) hx hb dX11_dead_73 (by decide) ?_
  refine lv_icmp_ge (tgt := 133) hx hb dX11_dead_76 (by decide) (fun hc19 => ?_) (fun hc19 => ?_)
  · have hF := bq_t hc19 hF
    exact hkk _ _ _ _ _ _ (lv_sub hl [5] rfl) hH hF
  · have hF := bq_f hc19 hF
    refine lv_aload_n hx hb dX11_dead_79 rfl (lv_at hl 0 rfl) ?_
    refine m_gR hx hb hown hk hH hF fk_RX11_value lk_RX11_29 dX11_dead_80 (fun v21 hF => ?_)
    refine lv_sipush (v := (4096)) hx hb dX11_dead_83 (by decide) ?_
    refine lv_iload hx hb dX11_dead_86 (lv_at hl 5 rfl) ?_
    refine lv_imul hx hb dX11_dead_88 ?_
    refine lv_iload hx hb dX11_dead_89 (lv_at hl 6 rfl) ?_
    refine lv_iadd hx hb dX11_dead_91 ?_
    refine lv_aload_n hx hb dX11_dead_92 rfl (lv_at hl 0 rfl) ?_
    refine lv_iload_n hx hb dX11_dead_93 rfl (lv_at hl 1 rfl) ?_
    refine lv_iload hx hb dX11_dead_94 (lv_at hl 6 rfl) ?_
    refine m_cVI hx hb hml hown hk hH hE.le hz (F := fun q23 => F_X11_of q23.1 x1 x6) (C := RX11) (T := TX11) (N := 22) rfl (As := [.int x1, .int x6]) (rest := [.int (((4096 : Int32) * x5) + x6), va_rf v21]) (fun o => t_X11_of l D cy z o x1 x6) hF wd_914 wd_916 wd_38 wd_917 wd_21 yn_X11_of ⟨Nat.le_trans (by decide) hfr, Nat.le_trans (by decide) hlo⟩ hl.1 (by first | exact Nat.le_of_ble_eq_true rfl | simp [m_cat, m_ci, m_cl, m_cf, m_cd, m_cr]) rfl dX11_dead_96 (fun c22 ws H locs cells slots hH hF => ?_)
    refine lv_iload_n hx hb dX11_dead_99 rfl (lv_at hl 2 rfl) ?_
    refine lv_icmp_lt (tgt := 119) hx hb dX11_dead_100 (by decide) (fun hc23 => ?_) (fun hc23 => ?_)
    · have hF := bq_t hc23 hF
      exact w_X11_dead_119 cx hE _ _ x0 x1 x2 x3 x4 x5 hrec hkk x6 v21 (((4096 : Int32) * x5) + x6) _ _ _ _ _ _ (lv_sub hl [0, 1, 2, 3, 4, 5, 6] rfl) hH hF
    · have hF := bq_f hc23 hF
      refine lv_aload_n hx hb dX11_dead_103 rfl (lv_at hl 0 rfl) ?_
      refine lv_iload_n hx hb dX11_dead_104 rfl (lv_at hl 1 rfl) ?_
      refine lv_iload hx hb dX11_dead_105 (lv_at hl 6 rfl) ?_
      refine m_cVI hx hb hml hown hk hH hE.le hz (F := fun q28 => F_X11_of q28.1 x1 x6) (C := RX11) (T := TX11) (N := 22) rfl (As := [.int x1, .int x6]) (rest := [.int (((4096 : Int32) * x5) + x6), va_rf v21]) (fun o => t_X11_of l D cy z o x1 x6) hF wd_914 wd_916 wd_38 wd_917 wd_21 yn_X11_of ⟨Nat.le_trans (by decide) hfr, Nat.le_trans (by decide) hlo⟩ hl.1 (by first | exact Nat.le_of_ble_eq_true rfl | simp [m_cat, m_ci, m_cl, m_cf, m_cd, m_cr]) rfl dX11_dead_107 (fun c27 ws H locs cells slots hH hF => ?_)
      refine lv_iload_n hx hb dX11_dead_110 rfl (lv_at hl 3 rfl) ?_
      refine lv_icmp_gt (tgt := 119) hx hb dX11_dead_111 (by decide) (fun hc28 => ?_) (fun hc28 => ?_)
      · have hF := bq_t hc28 hF
        exact w_X11_dead_119 cx hE _ _ x0 x1 x2 x3 x4 x5 hrec hkk x6 v21 (((4096 : Int32) * x5) + x6) _ _ _ _ _ _ (lv_sub hl [0, 1, 2, 3, 4, 5, 6] rfl) hH hF
      · have hF := bq_f hc28 hF
        refine lv_iload hx hb dX11_dead_114 (lv_at hl 4 rfl) ?_
        refine lv_goto (tgt := 126) hx hb dX11_dead_116 (by decide) ?_
        exact w_X11_dead_126 cx hE _ _ x0 x1 x2 x3 x4 x5 hrec hkk x6 v21 (((4096 : Int32) * x5) + x6) x4 _ _ _ _ _ _ (lv_sub hl [0, 1, 2, 3, 4, 5, 6] rfl) hH hF
theorem w_X11_dead_71 {l : Launch} {D : va_G} {cy : Nat → ClassId} {z : Nat} {p : Program} {e : Env} {R : Room} {s : State} {m : MethodId} {args : Array Value} {below : List Frame} {meth : Method} {c : Code} {ws0 wsf : WS} {rr : Int32} (cx : Cx D cy z RX11 cX11_dead 7 (some .int) 1 40 "dead" p R s m meth c) (hE : AC ws0 wsf R.cells R.slots) (x0 : Nat) (x1 : Int32) (x2 : Int32) (x3 : Int32) (x4 : Int32) (x5 : Int32) (k : St (Int32)) (hkk : At_ l D cy z p e R s m args below meth c ws0 wsf vI rr 7 133 [(5, .int x5)] [] (k)) : ∀ (n : Nat) (x6 : Int32), At_ l D cy z p e R s m args below meth c ws0 wsf vI rr 7 71 [(0, .ref x0), (1, .int x1), (2, .int x2), (3, .int x3), (4, .int x4), (5, .int x5), (6, .int x6)] [] (l_X11_dead_71 x0 x1 x2 x3 x4 x5 k n x6) := by
  intro n
  induction n with
  | zero =>
    intro x6 ws H locs cells slots ls hl hH hF
    exact fl_t hF
  | succ n ih =>
    intro x6
    exact wb_X11_dead_71 cx hE x0 x1 x2 x3 x4 x5 (l_X11_dead_71 x0 x1 x2 x3 x4 x5 k n) k ih hkk x6
set_option maxHeartbeats 4000000 in
set_option maxRecDepth 100000 in
theorem t_X11_dead (l : Launch) (D : va_G) (cy : Nat → ClassId) (z : Nat) (o : Nat) (x1 : Int32) (x2 : Int32) (x3 : Int32) (x4 : Int32) : MT l D cy z yX11_dead cX11_dead 7 (some .int) 1 40 (F_X11_dead o x1 x2 x3 x4) vI [.ref o, .int x1, .int x2, .int x3, .int x4] := by
  refine m_enter [(0, .ref o), (1, .int x1), (2, .int x2), (3, .int x3), (4, .int x4)] (by decide) (by first | rfl | simp [lv_args, m_cat, m_ci, m_cl, m_cf, m_cd, m_cr]) (by first | exact Nat.le_of_ble_eq_true rfl | simp [lg_sl, m_cat, m_ci, m_cl, m_cf, m_cd, m_cr]) ?_
  intro p e R s m args below meth c ws0 wsf rr cx hE ws H locs cells slots ls hl hH hF
  obtain ⟨hx, hb, hr, hml, hown, hk, hz, hlocks, hnm, hfr, hlo⟩ := id cx
  unfold F_X11_dead at hF
  refine lv_aload_n hx hb dX11_dead_0 rfl (lv_at hl 0 rfl) ?_
  refine lv_iload_n hx hb dX11_dead_1 rfl (lv_at hl 1 rfl) ?_
  refine m_cVI hx hb hml hown hk hH hE.le hz (F := fun q2 => F_X11_isCurve q2.1 x1) (C := RX11) (T := TX11) (N := 22) rfl (As := [.int x1]) (rest := []) (fun o => t_X11_isCurve l D cy z o x1) hF wd_903 wd_905 wd_38 wd_906 wd_19 yn_X11_isCurve ⟨Nat.le_trans (by decide) hfr, Nat.le_trans (by decide) hlo⟩ hl.1 (by first | exact Nat.le_of_ble_eq_true rfl | simp [m_cat, m_ci, m_cl, m_cf, m_cd, m_cr]) rfl dX11_dead_2 (fun c1 ws H locs cells slots hH hF => ?_)
  refine lv_if_eq (tgt := 50) hx hb dX11_dead_5 (by decide) (fun hc2 => ?_) (fun hc2 => ?_)
  · have hF := bq_t hc2 hF
    refine lv_bipush (v := (-2)) hx hb dX11_dead_50 (by decide) ?_
    exact m_iret hx hb hr hlocks hH hE hF rfl dX11_dead_52
  · have hF := bq_f hc2 hF
    refine lv_iload_n hx hb dX11_dead_8 rfl (lv_at hl 2 rfl) ?_
    refine lv_iload_n hx hb dX11_dead_9 rfl (lv_at hl 3 rfl) ?_
    refine lv_icmp_gt (tgt := 50) hx hb dX11_dead_10 (by decide) (fun hc3 => ?_) (fun hc3 => ?_)
    · have hF := bq_t hc3 hF
      refine lv_bipush (v := (-2)) hx hb dX11_dead_50 (by decide) ?_
      exact m_iret hx hb hr hlocks hH hE hF rfl dX11_dead_52
    · have hF := bq_f hc3 hF
      refine lv_iload_n hx hb dX11_dead_13 rfl (lv_at hl 2 rfl) ?_
      refine m_cSI hx hb hml hown hk hH hE.le hz (As := [.int x2]) (rest := []) (t_X11_isValue l D cy z x2) hF wd_907 wd_908 wd_38 wd_909 yn_X11_isValue ⟨Nat.le_trans (by decide) hfr, Nat.le_trans (by decide) hlo⟩ hl.1 (by first | exact Nat.le_of_ble_eq_true rfl | simp [m_cat, m_ci, m_cl, m_cf, m_cd, m_cr]) rfl dX11_dead_14 (fun c5 ws H locs cells slots hH hF => ?_)
      refine lv_if_eq (tgt := 50) hx hb dX11_dead_17 (by decide) (fun hc5 => ?_) (fun hc5 => ?_)
      · have hF := bq_t hc5 hF
        refine lv_bipush (v := (-2)) hx hb dX11_dead_50 (by decide) ?_
        exact m_iret hx hb hr hlocks hH hE hF rfl dX11_dead_52
      · have hF := bq_f hc5 hF
        refine lv_iload_n hx hb dX11_dead_20 rfl (lv_at hl 3 rfl) ?_
        refine m_cSI hx hb hml hown hk hH hE.le hz (As := [.int x3]) (rest := []) (t_X11_isValue l D cy z x3) hF wd_907 wd_908 wd_38 wd_909 yn_X11_isValue ⟨Nat.le_trans (by decide) hfr, Nat.le_trans (by decide) hlo⟩ hl.1 (by first | exact Nat.le_of_ble_eq_true rfl | simp [m_cat, m_ci, m_cl, m_cf, m_cd, m_cr]) rfl dX11_dead_21 (fun c7 ws H locs cells slots hH hF => ?_)
        refine lv_if_eq (tgt := 50) hx hb dX11_dead_24 (by decide) (fun hc7 => ?_) (fun hc7 => ?_)
        · have hF := bq_t hc7 hF
          refine lv_bipush (v := (-2)) hx hb dX11_dead_50 (by decide) ?_
          exact m_iret hx hb hr hlocks hH hE hF rfl dX11_dead_52
        · have hF := bq_f hc7 hF
          refine lv_iload hx hb dX11_dead_27 (lv_at hl 4 rfl) ?_
          refine m_cSI hx hb hml hown hk hH hE.le hz (As := [.int x4]) (rest := []) (t_X11_isValue l D cy z x4) hF wd_907 wd_908 wd_38 wd_909 yn_X11_isValue ⟨Nat.le_trans (by decide) hfr, Nat.le_trans (by decide) hlo⟩ hl.1 (by first | exact Nat.le_of_ble_eq_true rfl | simp [m_cat, m_ci, m_cl, m_cf, m_cd, m_cr]) rfl dX11_dead_29 (fun c9 ws H locs cells slots hH hF => ?_)
          refine lv_if_eq (tgt := 50) hx hb dX11_dead_32 (by decide) (fun hc9 => ?_) (fun hc9 => ?_)
          · have hF := bq_t hc9 hF
            refine lv_bipush (v := (-2)) hx hb dX11_dead_50 (by decide) ?_
            exact m_iret hx hb hr hlocks hH hE hF rfl dX11_dead_52
          · have hF := bq_f hc9 hF
            refine lv_aload_n hx hb dX11_dead_35 rfl (lv_at hl 0 rfl) ?_
            refine lv_aload_n hx hb dX11_dead_36 rfl (lv_at hl 0 rfl) ?_
            refine m_gR hx hb hown hk hH hF fk_RX11_work lk_RX11_25 dX11_dead_37 (fun v11 hF => ?_)
            refine lv_iload_n hx hb dX11_dead_40 rfl (lv_at hl 1 rfl) ?_
            refine m_aI0 hx hb hk hH hF dX11_dead_41 (fun v12 hF => ?_)
            refine lv_iconst (v := (1)) hx hb dX11_dead_42 (by decide) ?_
            refine lv_iadd hx hb dX11_dead_43 ?_
            refine m_cVI hx hb hml hown hk hH hE.le hz (F := fun q14 => F_X11_mayWork q14.1 (v12 + (1 : Int32))) (C := RX11) (T := TX11) (N := 22) rfl (As := [.int (v12 + (1 : Int32))]) (rest := []) (fun o => t_X11_mayWork l D cy z o (v12 + (1 : Int32))) hF wd_910 wd_912 wd_38 wd_913 wd_20 yn_X11_mayWork ⟨Nat.le_trans (by decide) hfr, Nat.le_trans (by decide) hlo⟩ hl.1 (by first | exact Nat.le_of_ble_eq_true rfl | simp [m_cat, m_ci, m_cl, m_cf, m_cd, m_cr]) rfl dX11_dead_44 (fun c13 ws H locs cells slots hH hF => ?_)
            refine lv_if_ne (tgt := 53) hx hb dX11_dead_47 (by decide) (fun hc14 => ?_) (fun hc14 => ?_)
            · have hF := bq_f hc14 hF
              refine lv_aload_n hx hb dX11_dead_53 rfl (lv_at hl 0 rfl) ?_
              refine lv_iconst (v := (3)) hx hb dX11_dead_54 (by decide) ?_
              refine lv_aload_n hx hb dX11_dead_55 rfl (lv_at hl 0 rfl) ?_
              refine m_gR hx hb hown hk hH hF fk_RX11_work lk_RX11_25 dX11_dead_56 (fun v16 hF => ?_)
              refine lv_iload_n hx hb dX11_dead_59 rfl (lv_at hl 1 rfl) ?_
              refine m_aI0 hx hb hk hH hF dX11_dead_60 (fun v17 hF => ?_)
              refine lv_iconst (v := (1)) hx hb dX11_dead_61 (by decide) ?_
              refine lv_iadd hx hb dX11_dead_62 ?_
              refine m_cVI hx hb hml hown hk hH hE.le hz (F := fun q19 => F_X11_newCurve q19.1 (3 : Int32) (v17 + (1 : Int32))) (C := RX11) (T := TX11) (N := 22) rfl (As := [.int (3 : Int32), .int (v17 + (1 : Int32))]) (rest := []) (fun o => t_X11_newCurve l D cy z o (3 : Int32) (v17 + (1 : Int32))) hF wd_861 wd_863 wd_38 wd_864 wd_17 yn_X11_newCurve ⟨Nat.le_trans (by decide) hfr, Nat.le_trans (by decide) hlo⟩ hl.1 (by first | exact Nat.le_of_ble_eq_true rfl | simp [m_cat, m_ci, m_cl, m_cf, m_cd, m_cr]) rfl dX11_dead_63 (fun c18 ws H locs cells slots hH hF => ?_)
              refine lv_istore (lv' := [(5, .int c18), (0, .ref o), (1, .int x1), (2, .int x2), (3, .int x3), (4, .int x4)]) hx hb dX11_dead_66 hl (by decide) (by first | rfl | simp [m_cat, m_ci, m_cl, m_cf, m_cd, m_cr]) (fun ls hl => ?_)
              refine lv_iconst (v := (0)) hx hb dX11_dead_68 (by decide) ?_
              refine lv_istore (lv' := [(6, .int (0 : Int32)), (5, .int c18), (0, .ref o), (1, .int x1), (2, .int x2), (3, .int x3), (4, .int x4)]) hx hb dX11_dead_69 hl (by decide) (by first | rfl | simp [m_cat, m_ci, m_cl, m_cf, m_cd, m_cr]) (fun ls hl => ?_)
              refine w_X11_dead_71 cx hE o x1 x2 x3 x4 c18 _ (fun ws H locs cells slots ls hl hH hF => ?_) _ _ _ _ _ _ _ _ (lv_sub hl [2, 3, 4, 5, 6, 1, 0] rfl) hH hF
              refine lv_iload hx hb dX11_dead_133 (lv_at hl 0 rfl) ?_
              exact m_iret hx hb hr hlocks hH hE hF rfl dX11_dead_135
            · have hF := bq_t hc14 hF
              refine lv_bipush (v := (-2)) hx hb dX11_dead_50 (by decide) ?_
              exact m_iret hx hb hr hlocks hH hE hF rfl dX11_dead_52

def j_X11_chain_121 (rec : Int32 → St (Int32)) (k : St (Int32)) (x0 : Nat) (x1 : Int32) (x2 : Int32) (x3 : Int32) (x4 : Int32) (s0 : Option Nat) (s1 : Int32) (s2 : Nat) (s3 : Int32) (s4 : Int32) : St (Int32) :=
  bd (dr [10] (some s2)) fun q27 => bd (F_X11_of q27.1 s3 s4) fun c26 => bd (sI 0 s0 s1 c26) fun _ => rec (x4 + (1 : Int32))
def b_X11_chain_65 (x0 : Nat) (x1 : Int32) (x2 : Int32) (x3 : Int32) (rec : Int32 → St (Int32)) (k : St (Int32)) (x4 : Int32) : St (Int32) :=
  br ((4096 : Int32) ≤ x4) (k) (bd (dr [10] (some x0)) fun q22 => bd (F_X11_of q22.1 x2 x4) fun c21 => bd (gR [10] 7 (some x0)) fun v23 => br (0 ≤ c21) (br (c21 < (4096 : Int32)) (j_X11_chain_121 rec k x0 x1 x2 x3 x4 v23 (((4096 : Int32) * x3) + x4) x0 x1 c21) (j_X11_chain_121 rec k x0 x1 x2 x3 x4 v23 (((4096 : Int32) * x3) + x4) x0 x1 (4095 : Int32))) (j_X11_chain_121 rec k x0 x1 x2 x3 x4 v23 (((4096 : Int32) * x3) + x4) x0 x1 (0 : Int32)))
def l_X11_chain_65 (x0 : Nat) (x1 : Int32) (x2 : Int32) (x3 : Int32) (k : St (Int32)) : Nat → Int32 → St (Int32)
  | 0 => fun _ => fl
  | n + 1 => fun x4 => b_X11_chain_65 x0 x1 x2 x3 (l_X11_chain_65 x0 x1 x2 x3 k n) k x4
def F_X11_chain (o : Nat) (x1 : Int32) (x2 : Int32) : St (Int32) :=
  bd (dr [10] (some o)) fun q2 => bd (F_X11_isCurve q2.1 x1) fun c1 => br (c1 = 0) (rt (-2 : Int32)) (bd (dr [10] (some o)) fun q5 => bd (F_X11_isCurve q5.1 x2) fun c4 => br (c4 = 0) (rt (-2 : Int32)) (bd (gR [10] 6 (some o)) fun v7 => bd (aI 0 v7 x1) fun v8 => bd (gR [10] 6 (some o)) fun v9 => bd (aI 0 v9 x2) fun v10 => bd (dr [10] (some o)) fun q12 => bd (F_X11_mayWork q12.1 ((v8 + v10) + (1 : Int32))) fun c11 => br (c11 = 0) (rt (-2 : Int32)) (bd (gR [10] 6 (some o)) fun v14 => bd (aI 0 v14 x1) fun v15 => bd (gR [10] 6 (some o)) fun v16 => bd (aI 0 v16 x2) fun v17 => bd (dr [10] (some o)) fun q19 => bd (F_X11_newCurve q19.1 (4 : Int32) ((v15 + v17) + (1 : Int32))) fun c18 => l_X11_chain_65 o x1 x2 c18 (rt c18) FU (0 : Int32))))
set_option maxHeartbeats 4000000 in
set_option maxRecDepth 100000 in
theorem w_X11_chain_121 {l : Launch} {D : va_G} {cy : Nat → ClassId} {z : Nat} {p : Program} {e : Env} {R : Room} {s : State} {m : MethodId} {args : Array Value} {below : List Frame} {meth : Method} {c : Code} {ws0 wsf : WS} {rr : Int32} (cx : Cx D cy z RX11 cX11_chain 6 (some .int) 1 40 "chain" p R s m meth c) (hE : AC ws0 wsf R.cells R.slots) (rec : Int32 → St (Int32)) (k : St (Int32)) (x0 : Nat) (x1 : Int32) (x2 : Int32) (x3 : Int32) (hrec : ∀ (x4 : Int32), At_ l D cy z p e R s m args below meth c ws0 wsf vI rr 6 65 [(0, .ref x0), (1, .int x1), (2, .int x2), (3, .int x3), (4, .int x4)] [] (rec x4)) (hkk : At_ l D cy z p e R s m args below meth c ws0 wsf vI rr 6 131 [(3, .int x3)] [] (k)) (x4 : Int32) (s0 : Option Nat) (s1 : Int32) (s2 : Nat) (s3 : Int32) (s4 : Int32) : At_ l D cy z p e R s m args below meth c ws0 wsf vI rr 6 121 [(0, .ref x0), (1, .int x1), (2, .int x2), (3, .int x3), (4, .int x4)] [.int s4, .int s3, .ref s2, .int s1, va_rf s0] (j_X11_chain_121 rec k x0 x1 x2 x3 x4 s0 s1 s2 s3 s4) := by
  intro ws H locs cells slots ls hl hH hF
  obtain ⟨hx, hb, hr, hml, hown, hk, hz, hlocks, hnm, hfr, hlo⟩ := id cx
  unfold j_X11_chain_121 at hF
  refine m_cVI hx hb hml hown hk hH hE.le hz (F := fun q27 => F_X11_of q27.1 s3 s4) (C := RX11) (T := TX11) (N := 22) rfl (As := [.int s3, .int s4]) (rest := [.int s1, va_rf s0]) (fun o => t_X11_of l D cy z o s3 s4) hF wd_914 wd_916 wd_38 wd_917 wd_21 yn_X11_of ⟨Nat.le_trans (by decide) hfr, Nat.le_trans (by decide) hlo⟩ hl.1 (by first | exact Nat.le_of_ble_eq_true rfl | simp [m_cat, m_ci, m_cl, m_cf, m_cd, m_cr]) rfl dX11_chain_121 (fun c26 ws H locs cells slots hH hF => ?_)
  refine m_sI0 hx hb hk hH hF dX11_chain_124 (fun ws H locs hH hF => ?_)
  refine lv_iinc (v := (x4 + (1 : Int32))) (lv' := [(4, .int (x4 + (1 : Int32))), (0, .ref x0), (1, .int x1), (2, .int x2), (3, .int x3)]) hx hb dX11_chain_125 hl (k := 4) rfl (by first | rfl | (congr 1)) (by decide) (by first | rfl | simp [m_cat, m_ci, m_cl, m_cf, m_cd, m_cr]) (fun ls hl => ?_)
  refine lv_goto (tgt := 65) hx hb dX11_chain_128 (by decide) ?_
  exact hrec _ _ _ _ _ _ _ (lv_sub hl [1, 2, 3, 4, 0] rfl) hH hF
set_option maxHeartbeats 4000000 in
set_option maxRecDepth 100000 in
theorem wb_X11_chain_65 {l : Launch} {D : va_G} {cy : Nat → ClassId} {z : Nat} {p : Program} {e : Env} {R : Room} {s : State} {m : MethodId} {args : Array Value} {below : List Frame} {meth : Method} {c : Code} {ws0 wsf : WS} {rr : Int32} (cx : Cx D cy z RX11 cX11_chain 6 (some .int) 1 40 "chain" p R s m meth c) (hE : AC ws0 wsf R.cells R.slots) (x0 : Nat) (x1 : Int32) (x2 : Int32) (x3 : Int32) (rec : Int32 → St (Int32)) (k : St (Int32)) (hrec : ∀ (x4 : Int32), At_ l D cy z p e R s m args below meth c ws0 wsf vI rr 6 65 [(0, .ref x0), (1, .int x1), (2, .int x2), (3, .int x3), (4, .int x4)] [] (rec x4)) (hkk : At_ l D cy z p e R s m args below meth c ws0 wsf vI rr 6 131 [(3, .int x3)] [] (k)) (x4 : Int32) : At_ l D cy z p e R s m args below meth c ws0 wsf vI rr 6 65 [(0, .ref x0), (1, .int x1), (2, .int x2), (3, .int x3), (4, .int x4)] [] (b_X11_chain_65 x0 x1 x2 x3 rec k x4) := by
  intro ws H locs cells slots ls hl hH hF
  obtain ⟨hx, hb, hr, hml, hown, hk, hz, hlocks, hnm, hfr, hlo⟩ := id cx
  unfold b_X11_chain_65 at hF
  refine lv_iload hx hb dX11_chain_65 (lv_at hl 4 rfl) ?_
  refine lv_sipush (v := (4096)) hx hb dX11_chain_67 (by decide) ?_
  refine lv_icmp_ge (tgt := 131) hx hb dX11_chain_70 (by decide) (fun hc19 => ?_) (fun hc19 => ?_)
  · have hF := bq_t hc19 hF
    exact hkk _ _ _ _ _ _ (lv_sub hl [3] rfl) hH hF
  · have hF := bq_f hc19 hF
    refine lv_aload_n hx hb dX11_chain_73 rfl (lv_at hl 0 rfl) ?_
    refine lv_iload_n hx hb dX11_chain_74 rfl (lv_at hl 2 rfl) ?_
    refine lv_iload hx hb dX11_chain_75 (lv_at hl 4 rfl) ?_
    refine m_cVI hx hb hml hown hk hH hE.le hz (F := fun q22 => F_X11_of q22.1 x2 x4) (C := RX11) (T := TX11) (N := 22) rfl (As := [.int x2, .int x4]) (rest := []) (fun o => t_X11_of l D cy z o x2 x4) hF wd_914 wd_916 wd_38 wd_917 wd_21 yn_X11_of ⟨Nat.le_trans (by decide) hfr, Nat.le_trans (by decide) hlo⟩ hl.1 (by first | exact Nat.le_of_ble_eq_true rfl | simp [m_cat, m_ci, m_cl, m_cf, m_cd, m_cr]) rfl dX11_chain_77 (fun c21 ws H locs cells slots hH hF => ?_)
    refine lv_istore (lv' := [(5, .int c21), (0, .ref x0), (1, .int x1), (2, .int x2), (3, .int x3), (4, .int x4)]) hx hb dX11_chain_80 hl (by decide) (by first | rfl | simp [m_cat, m_ci, m_cl, m_cf, m_cd, m_cr]) (fun ls hl => ?_)
    refine lv_aload_n hx hb dX11_chain_82 rfl (lv_at hl 1 rfl) ?_
    refine m_gR hx hb hown hk hH hF fk_RX11_value lk_RX11_29 dX11_chain_83 (fun v23 hF => ?_)
    refine lv_sipush (v := (4096)) hx hb dX11_chain_86 (by decide) ?_
    refine lv_iload_n hx hb dX11_chain_89 rfl (lv_at hl 4 rfl) ?_
    refine lv_imul hx hb dX11_chain_90 ?_
    refine lv_iload hx hb dX11_chain_91 (lv_at hl 5 rfl) ?_
    refine lv_iadd hx hb dX11_chain_93 ?_
    refine lv_aload_n hx hb dX11_chain_94 rfl (lv_at hl 1 rfl) ?_
    refine lv_iload_n hx hb dX11_chain_95 rfl (lv_at hl 2 rfl) ?_
    refine lv_iload hx hb dX11_chain_96 (lv_at hl 0 rfl) ?_
    refine lv_if_ge (tgt := 105) hx hb dX11_chain_98 (by decide) (fun hc23 => ?_) (fun hc23 => ?_)
    · have hF := bq_t hc23 hF
      refine lv_iload hx hb dX11_chain_105 (lv_at hl 0 rfl) ?_
      refine lv_sipush (v := (4096)) hx hb dX11_chain_107 (by decide) ?_
      refine lv_icmp_lt (tgt := 119) hx hb dX11_chain_110 (by decide) (fun hc24 => ?_) (fun hc24 => ?_)
      · have hF := bq_t hc24 hF
        refine lv_iload hx hb dX11_chain_119 (lv_at hl 0 rfl) ?_
        exact w_X11_chain_121 cx hE _ _ x0 x1 x2 x3 hrec hkk x4 v23 (((4096 : Int32) * x3) + x4) x0 x1 c21 _ _ _ _ _ _ (lv_sub hl [1, 2, 3, 4, 5] rfl) hH hF
      · have hF := bq_f hc24 hF
        refine lv_sipush (v := (4095)) hx hb dX11_chain_113 (by decide) ?_
        refine lv_goto (tgt := 121) hx hb dX11_chain_116 (by decide) ?_
        exact w_X11_chain_121 cx hE _ _ x0 x1 x2 x3 hrec hkk x4 v23 (((4096 : Int32) * x3) + x4) x0 x1 (4095 : Int32) _ _ _ _ _ _ (lv_sub hl [1, 2, 3, 4, 5] rfl) hH hF
    · have hF := bq_f hc23 hF
      refine lv_iconst (v := (0)) hx hb dX11_chain_101 (by decide) ?_
      refine lv_goto (tgt := 121) hx hb dX11_chain_102 (by decide) ?_
      exact w_X11_chain_121 cx hE _ _ x0 x1 x2 x3 hrec hkk x4 v23 (((4096 : Int32) * x3) + x4) x0 x1 (0 : Int32) _ _ _ _ _ _ (lv_sub hl [1, 2, 3, 4, 5] rfl) hH hF
theorem w_X11_chain_65 {l : Launch} {D : va_G} {cy : Nat → ClassId} {z : Nat} {p : Program} {e : Env} {R : Room} {s : State} {m : MethodId} {args : Array Value} {below : List Frame} {meth : Method} {c : Code} {ws0 wsf : WS} {rr : Int32} (cx : Cx D cy z RX11 cX11_chain 6 (some .int) 1 40 "chain" p R s m meth c) (hE : AC ws0 wsf R.cells R.slots) (x0 : Nat) (x1 : Int32) (x2 : Int32) (x3 : Int32) (k : St (Int32)) (hkk : At_ l D cy z p e R s m args below meth c ws0 wsf vI rr 6 131 [(3, .int x3)] [] (k)) : ∀ (n : Nat) (x4 : Int32), At_ l D cy z p e R s m args below meth c ws0 wsf vI rr 6 65 [(0, .ref x0), (1, .int x1), (2, .int x2), (3, .int x3), (4, .int x4)] [] (l_X11_chain_65 x0 x1 x2 x3 k n x4) := by
  intro n
  induction n with
  | zero =>
    intro x4 ws H locs cells slots ls hl hH hF
    exact fl_t hF
  | succ n ih =>
    intro x4
    exact wb_X11_chain_65 cx hE x0 x1 x2 x3 (l_X11_chain_65 x0 x1 x2 x3 k n) k ih hkk x4
set_option maxHeartbeats 4000000 in
set_option maxRecDepth 100000 in
theorem t_X11_chain (l : Launch) (D : va_G) (cy : Nat → ClassId) (z : Nat) (o : Nat) (x1 : Int32) (x2 : Int32) : MT l D cy z yX11_chain cX11_chain 6 (some .int) 1 40 (F_X11_chain o x1 x2) vI [.ref o, .int x1, .int x2] := by
  refine m_enter [(0, .ref o), (1, .int x1), (2, .int x2)] (by decide) (by first | rfl | simp [lv_args, m_cat, m_ci, m_cl, m_cf, m_cd, m_cr]) (by first | exact Nat.le_of_ble_eq_true rfl | simp [lg_sl, m_cat, m_ci, m_cl, m_cf, m_cd, m_cr]) ?_
  intro p e R s m args below meth c ws0 wsf rr cx hE ws H locs cells slots ls hl hH hF
  obtain ⟨hx, hb, hr, hml, hown, hk, hz, hlocks, hnm, hfr, hlo⟩ := id cx
  unfold F_X11_chain at hF
  refine lv_aload_n hx hb dX11_chain_0 rfl (lv_at hl 0 rfl) ?_
  refine lv_iload_n hx hb dX11_chain_1 rfl (lv_at hl 1 rfl) ?_
  refine m_cVI hx hb hml hown hk hH hE.le hz (F := fun q2 => F_X11_isCurve q2.1 x1) (C := RX11) (T := TX11) (N := 22) rfl (As := [.int x1]) (rest := []) (fun o => t_X11_isCurve l D cy z o x1) hF wd_903 wd_905 wd_38 wd_906 wd_19 yn_X11_isCurve ⟨Nat.le_trans (by decide) hfr, Nat.le_trans (by decide) hlo⟩ hl.1 (by first | exact Nat.le_of_ble_eq_true rfl | simp [m_cat, m_ci, m_cl, m_cf, m_cd, m_cr]) rfl dX11_chain_2 (fun c1 ws H locs cells slots hH hF => ?_)
  refine lv_if_eq (tgt := 38) hx hb dX11_chain_5 (by decide) (fun hc2 => ?_) (fun hc2 => ?_)
  · have hF := bq_t hc2 hF
    refine lv_bipush (v := (-2)) hx hb dX11_chain_38 (by decide) ?_
    exact m_iret hx hb hr hlocks hH hE hF rfl dX11_chain_40
  · have hF := bq_f hc2 hF
    refine lv_aload_n hx hb dX11_chain_8 rfl (lv_at hl 0 rfl) ?_
    refine lv_iload_n hx hb dX11_chain_9 rfl (lv_at hl 2 rfl) ?_
    refine m_cVI hx hb hml hown hk hH hE.le hz (F := fun q5 => F_X11_isCurve q5.1 x2) (C := RX11) (T := TX11) (N := 22) rfl (As := [.int x2]) (rest := []) (fun o => t_X11_isCurve l D cy z o x2) hF wd_903 wd_905 wd_38 wd_906 wd_19 yn_X11_isCurve ⟨Nat.le_trans (by decide) hfr, Nat.le_trans (by decide) hlo⟩ hl.1 (by first | exact Nat.le_of_ble_eq_true rfl | simp [m_cat, m_ci, m_cl, m_cf, m_cd, m_cr]) rfl dX11_chain_10 (fun c4 ws H locs cells slots hH hF => ?_)
    refine lv_if_eq (tgt := 38) hx hb dX11_chain_13 (by decide) (fun hc5 => ?_) (fun hc5 => ?_)
    · have hF := bq_t hc5 hF
      refine lv_bipush (v := (-2)) hx hb dX11_chain_38 (by decide) ?_
      exact m_iret hx hb hr hlocks hH hE hF rfl dX11_chain_40
    · have hF := bq_f hc5 hF
      refine lv_aload_n hx hb dX11_chain_16 rfl (lv_at hl 0 rfl) ?_
      refine lv_aload_n hx hb dX11_chain_17 rfl (lv_at hl 0 rfl) ?_
      refine m_gR hx hb hown hk hH hF fk_RX11_work lk_RX11_25 dX11_chain_18 (fun v7 hF => ?_)
      refine lv_iload_n hx hb dX11_chain_21 rfl (lv_at hl 1 rfl) ?_
      refine m_aI0 hx hb hk hH hF dX11_chain_22 (fun v8 hF => ?_)
      refine lv_aload_n hx hb dX11_chain_23 rfl (lv_at hl 0 rfl) ?_
      refine m_gR hx hb hown hk hH hF fk_RX11_work lk_RX11_25 dX11_chain_24 (fun v9 hF => ?_)
      refine lv_iload_n hx hb dX11_chain_27 rfl (lv_at hl 2 rfl) ?_
      refine m_aI0 hx hb hk hH hF dX11_chain_28 (fun v10 hF => ?_)
      refine lv_iadd hx hb dX11_chain_29 ?_
      refine lv_iconst (v := (1)) hx hb dX11_chain_30 (by decide) ?_
      refine lv_iadd hx hb dX11_chain_31 ?_
      refine m_cVI hx hb hml hown hk hH hE.le hz (F := fun q12 => F_X11_mayWork q12.1 ((v8 + v10) + (1 : Int32))) (C := RX11) (T := TX11) (N := 22) rfl (As := [.int ((v8 + v10) + (1 : Int32))]) (rest := []) (fun o => t_X11_mayWork l D cy z o ((v8 + v10) + (1 : Int32))) hF wd_910 wd_912 wd_38 wd_913 wd_20 yn_X11_mayWork ⟨Nat.le_trans (by decide) hfr, Nat.le_trans (by decide) hlo⟩ hl.1 (by first | exact Nat.le_of_ble_eq_true rfl | simp [m_cat, m_ci, m_cl, m_cf, m_cd, m_cr]) rfl dX11_chain_32 (fun c11 ws H locs cells slots hH hF => ?_)
      refine lv_if_ne (tgt := 41) hx hb dX11_chain_35 (by decide) (fun hc12 => ?_) (fun hc12 => ?_)
      · have hF := bq_f hc12 hF
        refine lv_aload_n hx hb dX11_chain_41 rfl (lv_at hl 0 rfl) ?_
        refine lv_iconst (v := (4)) hx hb dX11_chain_42 (by decide) ?_
        refine lv_aload_n hx hb dX11_chain_43 rfl (lv_at hl 0 rfl) ?_
        refine m_gR hx hb hown hk hH hF fk_RX11_work lk_RX11_25 dX11_chain_44 (fun v14 hF => ?_)
        refine lv_iload_n hx hb dX11_chain_47 rfl (lv_at hl 1 rfl) ?_
        refine m_aI0 hx hb hk hH hF dX11_chain_48 (fun v15 hF => ?_)
        refine lv_aload_n hx hb dX11_chain_49 rfl (lv_at hl 0 rfl) ?_
        refine m_gR hx hb hown hk hH hF fk_RX11_work lk_RX11_25 dX11_chain_50 (fun v16 hF => ?_)
        refine lv_iload_n hx hb dX11_chain_53 rfl (lv_at hl 2 rfl) ?_
        refine m_aI0 hx hb hk hH hF dX11_chain_54 (fun v17 hF => ?_)
        refine lv_iadd hx hb dX11_chain_55 ?_
        refine lv_iconst (v := (1)) hx hb dX11_chain_56 (by decide) ?_
        refine lv_iadd hx hb dX11_chain_57 ?_
        refine m_cVI hx hb hml hown hk hH hE.le hz (F := fun q19 => F_X11_newCurve q19.1 (4 : Int32) ((v15 + v17) + (1 : Int32))) (C := RX11) (T := TX11) (N := 22) rfl (As := [.int (4 : Int32), .int ((v15 + v17) + (1 : Int32))]) (rest := []) (fun o => t_X11_newCurve l D cy z o (4 : Int32) ((v15 + v17) + (1 : Int32))) hF wd_861 wd_863 wd_38 wd_864 wd_17 yn_X11_newCurve ⟨Nat.le_trans (by decide) hfr, Nat.le_trans (by decide) hlo⟩ hl.1 (by first | exact Nat.le_of_ble_eq_true rfl | simp [m_cat, m_ci, m_cl, m_cf, m_cd, m_cr]) rfl dX11_chain_58 (fun c18 ws H locs cells slots hH hF => ?_)
        refine lv_istore_n (lv' := [(3, .int c18), (0, .ref o), (1, .int x1), (2, .int x2)]) hx hb dX11_chain_61 rfl hl (by decide) (by first | rfl | simp [m_cat, m_ci, m_cl, m_cf, m_cd, m_cr]) (fun ls hl => ?_)
        refine lv_iconst (v := (0)) hx hb dX11_chain_62 (by decide) ?_
        refine lv_istore (lv' := [(4, .int (0 : Int32)), (3, .int c18), (0, .ref o), (1, .int x1), (2, .int x2)]) hx hb dX11_chain_63 hl (by decide) (by first | rfl | simp [m_cat, m_ci, m_cl, m_cf, m_cd, m_cr]) (fun ls hl => ?_)
        refine w_X11_chain_65 cx hE o x1 x2 c18 _ (fun ws H locs cells slots ls hl hH hF => ?_) _ _ _ _ _ _ _ _ (lv_sub hl [2, 3, 4, 1, 0] rfl) hH hF
        refine lv_iload_n hx hb dX11_chain_131 rfl (lv_at hl 0 rfl) ?_
        exact m_iret hx hb hr hlocks hH hE hF rfl dX11_chain_132
      · have hF := bq_t hc12 hF
        refine lv_bipush (v := (-2)) hx hb dX11_chain_38 (by decide) ?_
        exact m_iret hx hb hr hlocks hH hE hF rfl dX11_chain_40

def b_X11_gain_78 (x0 : Nat) (x1 : Int32) (x2 : Int32) (x3 : Int32) (x4 : Int32) (x5 : Int32) (rec : Int32 → St (Int32)) (k : St (Int32)) (x6 : Int32) : St (Int32) :=
  br ((4096 : Int32) ≤ x6) (k) (bd (gR [10] 7 (some x0)) fun v20 => bd (dr [10] (some x0)) fun q22 => bd (F_X11_of q22.1 x1 x6) fun c21 => bd (F_X11_rounded (c21.toInt64 * x2.toInt64) x3.toInt64) fun c23 => bd (F_X11_bounded (c23 + x4.toInt64)) fun c24 => bd (sI 0 v20 (((4096 : Int32) * x5) + x6) c24) fun _ => rec (x6 + (1 : Int32)))
def l_X11_gain_78 (x0 : Nat) (x1 : Int32) (x2 : Int32) (x3 : Int32) (x4 : Int32) (x5 : Int32) (k : St (Int32)) : Nat → Int32 → St (Int32)
  | 0 => fun _ => fl
  | n + 1 => fun x6 => b_X11_gain_78 x0 x1 x2 x3 x4 x5 (l_X11_gain_78 x0 x1 x2 x3 x4 x5 k n) k x6
def F_X11_gain (o : Nat) (x1 : Int32) (x2 : Int32) (x3 : Int32) (x4 : Int32) : St (Int32) :=
  bd (dr [10] (some o)) fun q2 => bd (F_X11_isCurve q2.1 x1) fun c1 => br (c1 = 0) (rt (-2 : Int32)) (br (x2 < (-1000 : Int32)) (rt (-2 : Int32)) (br ((1000 : Int32) < x2) (rt (-2 : Int32)) (br (x3 < (1 : Int32)) (rt (-2 : Int32)) (br ((1000 : Int32) < x3) (rt (-2 : Int32)) (bd (F_X11_isValue x4) fun c8 => br (c8 = 0) (rt (-2 : Int32)) (bd (gR [10] 6 (some o)) fun v10 => bd (aI 0 v10 x1) fun v11 => bd (dr [10] (some o)) fun q13 => bd (F_X11_mayWork q13.1 (v11 + (1 : Int32))) fun c12 => br (c12 = 0) (rt (-2 : Int32)) (bd (gR [10] 6 (some o)) fun v15 => bd (aI 0 v15 x1) fun v16 => bd (dr [10] (some o)) fun q18 => bd (F_X11_newCurve q18.1 (5 : Int32) (v16 + (1 : Int32))) fun c17 => l_X11_gain_78 o x1 x2 x3 x4 c17 (rt c17) FU (0 : Int32))))))))
set_option maxHeartbeats 4000000 in
set_option maxRecDepth 100000 in
theorem wb_X11_gain_78 {l : Launch} {D : va_G} {cy : Nat → ClassId} {z : Nat} {p : Program} {e : Env} {R : Room} {s : State} {m : MethodId} {args : Array Value} {below : List Frame} {meth : Method} {c : Code} {ws0 wsf : WS} {rr : Int32} (cx : Cx D cy z RX11 cX11_gain 7 (some .int) 2 67 "gain" p R s m meth c) (hE : AC ws0 wsf R.cells R.slots) (x0 : Nat) (x1 : Int32) (x2 : Int32) (x3 : Int32) (x4 : Int32) (x5 : Int32) (rec : Int32 → St (Int32)) (k : St (Int32)) (hrec : ∀ (x6 : Int32), At_ l D cy z p e R s m args below meth c ws0 wsf vI rr 7 78 [(0, .ref x0), (1, .int x1), (2, .int x2), (3, .int x3), (4, .int x4), (5, .int x5), (6, .int x6)] [] (rec x6)) (hkk : At_ l D cy z p e R s m args below meth c ws0 wsf vI rr 7 129 [(5, .int x5)] [] (k)) (x6 : Int32) : At_ l D cy z p e R s m args below meth c ws0 wsf vI rr 7 78 [(0, .ref x0), (1, .int x1), (2, .int x2), (3, .int x3), (4, .int x4), (5, .int x5), (6, .int x6)] [] (b_X11_gain_78 x0 x1 x2 x3 x4 x5 rec k x6) := by
  intro ws H locs cells slots ls hl hH hF
  obtain ⟨hx, hb, hr, hml, hown, hk, hz, hlocks, hnm, hfr, hlo⟩ := id cx
  unfold b_X11_gain_78 at hF
  refine lv_iload hx hb dX11_gain_78 (lv_at hl 6 rfl) ?_
  refine lv_sipush (v := (4096)) hx hb dX11_gain_80 (by decide) ?_
  refine lv_icmp_ge (tgt := 129) hx hb dX11_gain_83 (by decide) (fun hc18 => ?_) (fun hc18 => ?_)
  · have hF := bq_t hc18 hF
    exact hkk _ _ _ _ _ _ (lv_sub hl [5] rfl) hH hF
  · have hF := bq_f hc18 hF
    refine lv_aload_n hx hb dX11_gain_86 rfl (lv_at hl 0 rfl) ?_
    refine m_gR hx hb hown hk hH hF fk_RX11_value lk_RX11_29 dX11_gain_87 (fun v20 hF => ?_)
    refine lv_sipush (v := (4096)) hx hb dX11_gain_90 (by decide) ?_
    refine lv_iload hx hb dX11_gain_93 (lv_at hl 5 rfl) ?_
    refine lv_imul hx hb dX11_gain_95 ?_
    refine lv_iload hx hb dX11_gain_96 (lv_at hl 6 rfl) ?_
    refine lv_iadd hx hb dX11_gain_98 ?_
    refine lv_aload_n hx hb dX11_gain_99 rfl (lv_at hl 0 rfl) ?_
    refine lv_iload_n hx hb dX11_gain_100 rfl (lv_at hl 1 rfl) ?_
    refine lv_iload hx hb dX11_gain_101 (lv_at hl 6 rfl) ?_
    refine m_cVI hx hb hml hown hk hH hE.le hz (F := fun q22 => F_X11_of q22.1 x1 x6) (C := RX11) (T := TX11) (N := 22) rfl (As := [.int x1, .int x6]) (rest := [.int (((4096 : Int32) * x5) + x6), va_rf v20]) (fun o => t_X11_of l D cy z o x1 x6) hF wd_914 wd_916 wd_38 wd_917 wd_21 yn_X11_of ⟨Nat.le_trans (by decide) hfr, Nat.le_trans (by decide) hlo⟩ hl.1 (by first | exact Nat.le_of_ble_eq_true rfl | simp [m_cat, m_ci, m_cl, m_cf, m_cd, m_cr]) rfl dX11_gain_103 (fun c21 ws H locs cells slots hH hF => ?_)
    refine lv_i2l hx hb dX11_gain_106 rfl ?_
    refine lv_iload_n hx hb dX11_gain_107 rfl (lv_at hl 2 rfl) ?_
    refine lv_i2l hx hb dX11_gain_108 rfl ?_
    refine lv_lmul hx hb dX11_gain_109 ?_
    refine lv_iload_n hx hb dX11_gain_110 rfl (lv_at hl 3 rfl) ?_
    refine lv_i2l hx hb dX11_gain_111 rfl ?_
    refine m_cSL hx hb hml hown hk hH hE.le hz (As := [.long (c21.toInt64 * x2.toInt64), .long x3.toInt64]) (rest := [.int (((4096 : Int32) * x5) + x6), va_rf v20]) (t_X11_rounded l D cy z (c21.toInt64 * x2.toInt64) x3.toInt64) hF wd_865 wd_866 wd_38 wd_867 yn_X11_rounded ⟨Nat.le_trans (by decide) hfr, Nat.le_trans (by decide) hlo⟩ hl.1 (by first | exact Nat.le_of_ble_eq_true rfl | simp [m_cat, m_ci, m_cl, m_cf, m_cd, m_cr]) rfl dX11_gain_112 (fun c23 ws H locs cells slots hH hF => ?_)
    refine lv_iload hx hb dX11_gain_115 (lv_at hl 4 rfl) ?_
    refine lv_i2l hx hb dX11_gain_117 rfl ?_
    refine lv_ladd hx hb dX11_gain_118 ?_
    refine m_cSI hx hb hml hown hk hH hE.le hz (As := [.long (c23 + x4.toInt64)]) (rest := [.int (((4096 : Int32) * x5) + x6), va_rf v20]) (t_X11_bounded l D cy z (c23 + x4.toInt64)) hF wd_872 wd_873 wd_38 wd_874 yn_X11_bounded ⟨Nat.le_trans (by decide) hfr, Nat.le_trans (by decide) hlo⟩ hl.1 (by first | exact Nat.le_of_ble_eq_true rfl | simp [m_cat, m_ci, m_cl, m_cf, m_cd, m_cr]) rfl dX11_gain_119 (fun c24 ws H locs cells slots hH hF => ?_)
    refine m_sI0 hx hb hk hH hF dX11_gain_122 (fun ws H locs hH hF => ?_)
    refine lv_iinc (v := (x6 + (1 : Int32))) (lv' := [(6, .int (x6 + (1 : Int32))), (0, .ref x0), (1, .int x1), (2, .int x2), (3, .int x3), (4, .int x4), (5, .int x5)]) hx hb dX11_gain_123 hl (k := 6) rfl (by first | rfl | (congr 1)) (by decide) (by first | rfl | simp [m_cat, m_ci, m_cl, m_cf, m_cd, m_cr]) (fun ls hl => ?_)
    refine lv_goto (tgt := 78) hx hb dX11_gain_126 (by decide) ?_
    exact hrec _ _ _ _ _ _ _ (lv_sub hl [1, 2, 3, 4, 5, 6, 0] rfl) hH hF
theorem w_X11_gain_78 {l : Launch} {D : va_G} {cy : Nat → ClassId} {z : Nat} {p : Program} {e : Env} {R : Room} {s : State} {m : MethodId} {args : Array Value} {below : List Frame} {meth : Method} {c : Code} {ws0 wsf : WS} {rr : Int32} (cx : Cx D cy z RX11 cX11_gain 7 (some .int) 2 67 "gain" p R s m meth c) (hE : AC ws0 wsf R.cells R.slots) (x0 : Nat) (x1 : Int32) (x2 : Int32) (x3 : Int32) (x4 : Int32) (x5 : Int32) (k : St (Int32)) (hkk : At_ l D cy z p e R s m args below meth c ws0 wsf vI rr 7 129 [(5, .int x5)] [] (k)) : ∀ (n : Nat) (x6 : Int32), At_ l D cy z p e R s m args below meth c ws0 wsf vI rr 7 78 [(0, .ref x0), (1, .int x1), (2, .int x2), (3, .int x3), (4, .int x4), (5, .int x5), (6, .int x6)] [] (l_X11_gain_78 x0 x1 x2 x3 x4 x5 k n x6) := by
  intro n
  induction n with
  | zero =>
    intro x6 ws H locs cells slots ls hl hH hF
    exact fl_t hF
  | succ n ih =>
    intro x6
    exact wb_X11_gain_78 cx hE x0 x1 x2 x3 x4 x5 (l_X11_gain_78 x0 x1 x2 x3 x4 x5 k n) k ih hkk x6
set_option maxHeartbeats 4000000 in
set_option maxRecDepth 100000 in
theorem t_X11_gain (l : Launch) (D : va_G) (cy : Nat → ClassId) (z : Nat) (o : Nat) (x1 : Int32) (x2 : Int32) (x3 : Int32) (x4 : Int32) : MT l D cy z yX11_gain cX11_gain 7 (some .int) 2 67 (F_X11_gain o x1 x2 x3 x4) vI [.ref o, .int x1, .int x2, .int x3, .int x4] := by
  refine m_enter [(0, .ref o), (1, .int x1), (2, .int x2), (3, .int x3), (4, .int x4)] (by decide) (by first | rfl | simp [lv_args, m_cat, m_ci, m_cl, m_cf, m_cd, m_cr]) (by first | exact Nat.le_of_ble_eq_true rfl | simp [lg_sl, m_cat, m_ci, m_cl, m_cf, m_cd, m_cr]) ?_
  intro p e R s m args below meth c ws0 wsf rr cx hE ws H locs cells slots ls hl hH hF
  obtain ⟨hx, hb, hr, hml, hown, hk, hz, hlocks, hnm, hfr, hlo⟩ := id cx
  unfold F_X11_gain at hF
  refine lv_aload_n hx hb dX11_gain_0 rfl (lv_at hl 0 rfl) ?_
  refine lv_iload_n hx hb dX11_gain_1 rfl (lv_at hl 1 rfl) ?_
  refine m_cVI hx hb hml hown hk hH hE.le hz (F := fun q2 => F_X11_isCurve q2.1 x1) (C := RX11) (T := TX11) (N := 22) rfl (As := [.int x1]) (rest := []) (fun o => t_X11_isCurve l D cy z o x1) hF wd_903 wd_905 wd_38 wd_906 wd_19 yn_X11_isCurve ⟨Nat.le_trans (by decide) hfr, Nat.le_trans (by decide) hlo⟩ hl.1 (by first | exact Nat.le_of_ble_eq_true rfl | simp [m_cat, m_ci, m_cl, m_cf, m_cd, m_cr]) rfl dX11_gain_2 (fun c1 ws H locs cells slots hH hF => ?_)
  refine lv_if_eq (tgt := 57) hx hb dX11_gain_5 (by decide) (fun hc2 => ?_) (fun hc2 => ?_)
  · have hF := bq_t hc2 hF
    refine lv_bipush (v := (-2)) hx hb dX11_gain_57 (by decide) ?_
    exact m_iret hx hb hr hlocks hH hE hF rfl dX11_gain_59
  · have hF := bq_f hc2 hF
    refine lv_iload_n hx hb dX11_gain_8 rfl (lv_at hl 2 rfl) ?_
    refine lv_sipush (v := (-1000)) hx hb dX11_gain_9 (by decide) ?_
    refine lv_icmp_lt (tgt := 57) hx hb dX11_gain_12 (by decide) (fun hc3 => ?_) (fun hc3 => ?_)
    · have hF := bq_t hc3 hF
      refine lv_bipush (v := (-2)) hx hb dX11_gain_57 (by decide) ?_
      exact m_iret hx hb hr hlocks hH hE hF rfl dX11_gain_59
    · have hF := bq_f hc3 hF
      refine lv_iload_n hx hb dX11_gain_15 rfl (lv_at hl 2 rfl) ?_
      refine lv_sipush (v := (1000)) hx hb dX11_gain_16 (by decide) ?_
      refine lv_icmp_gt (tgt := 57) hx hb dX11_gain_19 (by decide) (fun hc4 => ?_) (fun hc4 => ?_)
      · have hF := bq_t hc4 hF
        refine lv_bipush (v := (-2)) hx hb dX11_gain_57 (by decide) ?_
        exact m_iret hx hb hr hlocks hH hE hF rfl dX11_gain_59
      · have hF := bq_f hc4 hF
        refine lv_iload_n hx hb dX11_gain_22 rfl (lv_at hl 3 rfl) ?_
        refine lv_iconst (v := (1)) hx hb dX11_gain_23 (by decide) ?_
        refine lv_icmp_lt (tgt := 57) hx hb dX11_gain_24 (by decide) (fun hc5 => ?_) (fun hc5 => ?_)
        · have hF := bq_t hc5 hF
          refine lv_bipush (v := (-2)) hx hb dX11_gain_57 (by decide) ?_
          exact m_iret hx hb hr hlocks hH hE hF rfl dX11_gain_59
        · have hF := bq_f hc5 hF
          refine lv_iload_n hx hb dX11_gain_27 rfl (lv_at hl 3 rfl) ?_
          refine lv_sipush (v := (1000)) hx hb dX11_gain_28 (by decide) ?_
          refine lv_icmp_gt (tgt := 57) hx hb dX11_gain_31 (by decide) (fun hc6 => ?_) (fun hc6 => ?_)
          · have hF := bq_t hc6 hF
            refine lv_bipush (v := (-2)) hx hb dX11_gain_57 (by decide) ?_
            exact m_iret hx hb hr hlocks hH hE hF rfl dX11_gain_59
          · have hF := bq_f hc6 hF
            refine lv_iload hx hb dX11_gain_34 (lv_at hl 4 rfl) ?_
            refine m_cSI hx hb hml hown hk hH hE.le hz (As := [.int x4]) (rest := []) (t_X11_isValue l D cy z x4) hF wd_907 wd_908 wd_38 wd_909 yn_X11_isValue ⟨Nat.le_trans (by decide) hfr, Nat.le_trans (by decide) hlo⟩ hl.1 (by first | exact Nat.le_of_ble_eq_true rfl | simp [m_cat, m_ci, m_cl, m_cf, m_cd, m_cr]) rfl dX11_gain_36 (fun c8 ws H locs cells slots hH hF => ?_)
            refine lv_if_eq (tgt := 57) hx hb dX11_gain_39 (by decide) (fun hc8 => ?_) (fun hc8 => ?_)
            · have hF := bq_t hc8 hF
              refine lv_bipush (v := (-2)) hx hb dX11_gain_57 (by decide) ?_
              exact m_iret hx hb hr hlocks hH hE hF rfl dX11_gain_59
            · have hF := bq_f hc8 hF
              refine lv_aload_n hx hb dX11_gain_42 rfl (lv_at hl 0 rfl) ?_
              refine lv_aload_n hx hb dX11_gain_43 rfl (lv_at hl 0 rfl) ?_
              refine m_gR hx hb hown hk hH hF fk_RX11_work lk_RX11_25 dX11_gain_44 (fun v10 hF => ?_)
              refine lv_iload_n hx hb dX11_gain_47 rfl (lv_at hl 1 rfl) ?_
              refine m_aI0 hx hb hk hH hF dX11_gain_48 (fun v11 hF => ?_)
              refine lv_iconst (v := (1)) hx hb dX11_gain_49 (by decide) ?_
              refine lv_iadd hx hb dX11_gain_50 ?_
              refine m_cVI hx hb hml hown hk hH hE.le hz (F := fun q13 => F_X11_mayWork q13.1 (v11 + (1 : Int32))) (C := RX11) (T := TX11) (N := 22) rfl (As := [.int (v11 + (1 : Int32))]) (rest := []) (fun o => t_X11_mayWork l D cy z o (v11 + (1 : Int32))) hF wd_910 wd_912 wd_38 wd_913 wd_20 yn_X11_mayWork ⟨Nat.le_trans (by decide) hfr, Nat.le_trans (by decide) hlo⟩ hl.1 (by first | exact Nat.le_of_ble_eq_true rfl | simp [m_cat, m_ci, m_cl, m_cf, m_cd, m_cr]) rfl dX11_gain_51 (fun c12 ws H locs cells slots hH hF => ?_)
              refine lv_if_ne (tgt := 60) hx hb dX11_gain_54 (by decide) (fun hc13 => ?_) (fun hc13 => ?_)
              · have hF := bq_f hc13 hF
                refine lv_aload_n hx hb dX11_gain_60 rfl (lv_at hl 0 rfl) ?_
                refine lv_iconst (v := (5)) hx hb dX11_gain_61 (by decide) ?_
                refine lv_aload_n hx hb dX11_gain_62 rfl (lv_at hl 0 rfl) ?_
                refine m_gR hx hb hown hk hH hF fk_RX11_work lk_RX11_25 dX11_gain_63 (fun v15 hF => ?_)
                refine lv_iload_n hx hb dX11_gain_66 rfl (lv_at hl 1 rfl) ?_
                refine m_aI0 hx hb hk hH hF dX11_gain_67 (fun v16 hF => ?_)
                refine lv_iconst (v := (1)) hx hb dX11_gain_68 (by decide) ?_
                refine lv_iadd hx hb dX11_gain_69 ?_
                refine m_cVI hx hb hml hown hk hH hE.le hz (F := fun q18 => F_X11_newCurve q18.1 (5 : Int32) (v16 + (1 : Int32))) (C := RX11) (T := TX11) (N := 22) rfl (As := [.int (5 : Int32), .int (v16 + (1 : Int32))]) (rest := []) (fun o => t_X11_newCurve l D cy z o (5 : Int32) (v16 + (1 : Int32))) hF wd_861 wd_863 wd_38 wd_864 wd_17 yn_X11_newCurve ⟨Nat.le_trans (by decide) hfr, Nat.le_trans (by decide) hlo⟩ hl.1 (by first | exact Nat.le_of_ble_eq_true rfl | simp [m_cat, m_ci, m_cl, m_cf, m_cd, m_cr]) rfl dX11_gain_70 (fun c17 ws H locs cells slots hH hF => ?_)
                refine lv_istore (lv' := [(5, .int c17), (0, .ref o), (1, .int x1), (2, .int x2), (3, .int x3), (4, .int x4)]) hx hb dX11_gain_73 hl (by decide) (by first | rfl | simp [m_cat, m_ci, m_cl, m_cf, m_cd, m_cr]) (fun ls hl => ?_)
                refine lv_iconst (v := (0)) hx hb dX11_gain_75 (by decide) ?_
                refine lv_istore (lv' := [(6, .int (0 : Int32)), (5, .int c17), (0, .ref o), (1, .int x1), (2, .int x2), (3, .int x3), (4, .int x4)]) hx hb dX11_gain_76 hl (by decide) (by first | rfl | simp [m_cat, m_ci, m_cl, m_cf, m_cd, m_cr]) (fun ls hl => ?_)
                refine w_X11_gain_78 cx hE o x1 x2 x3 x4 c17 _ (fun ws H locs cells slots ls hl hH hF => ?_) _ _ _ _ _ _ _ _ (lv_sub hl [2, 3, 4, 5, 6, 1, 0] rfl) hH hF
                refine lv_iload hx hb dX11_gain_129 (lv_at hl 0 rfl) ?_
                exact m_iret hx hb hr hlocks hH hE hF rfl dX11_gain_131
              · have hF := bq_t hc13 hF
                refine lv_bipush (v := (-2)) hx hb dX11_gain_57 (by decide) ?_
                exact m_iret hx hb hr hlocks hH hE hF rfl dX11_gain_59
