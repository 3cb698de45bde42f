def b_X11_init_164 (x0 : Nat) (rec : Int32 → St (Unit)) (k : St (Unit)) (x1 : Int32) : St (Unit) :=
  br ((4 : Int32) ≤ x1) (k) (bd (gR [10] 11 (some x0)) fun v22 => bd (sI 0 v22 x1 (-1 : Int32)) fun _ => bd (gR [10] 13 (some x0)) fun v23 => bd (sI 0 v23 x1 (1 : Int32)) fun _ => bd (gR [10] 17 (some x0)) fun v24 => bd (sI 0 v24 x1 (-1 : Int32)) fun _ => rec (x1 + (1 : Int32)))
def l_X11_init_164 (x0 : Nat) (k : St (Unit)) : Nat → Int32 → St (Unit)
  | 0 => fun _ => fl
  | n + 1 => fun x1 => b_X11_init_164 x0 (l_X11_init_164 x0 k n) k x1
def b_X11_init_198 (x0 : Nat) (rec : Int32 → St (Unit)) (k : St (Unit)) (x1 : Int32) : St (Unit) :=
  br ((8 : Int32) ≤ x1) (k) (bd (gR [10] 20 (some x0)) fun v26 => bd (sI 0 v26 x1 (-1 : Int32)) fun _ => rec (x1 + (1 : Int32)))
def l_X11_init_198 (x0 : Nat) (k : St (Unit)) : Nat → Int32 → St (Unit)
  | 0 => fun _ => fl
  | n + 1 => fun x1 => b_X11_init_198 x0 (l_X11_init_198 x0 k n) k x1
def F_X11_init (o : Nat) : St (Unit) :=
  bd (nA 0 (8 : Int32)) fun a1 => bd (pV [10] 0 (some o) (va_rf (some a1))) fun _ => bd (nA 0 (192 : Int32)) fun a2 => bd (pV [10] 1 (some o) (va_rf (some a2))) fun _ => bd (nA 0 (192 : Int32)) fun a3 => bd (pV [10] 2 (some o) (va_rf (some a3))) fun _ => bd (nA 0 (192 : Int32)) fun a4 => bd (pV [10] 3 (some o) (va_rf (some a4))) fun _ => bd (nA 0 (60 : Int32)) fun a5 => bd (pV [10] 5 (some o) (va_rf (some a5))) fun _ => bd (nA 0 (60 : Int32)) fun a6 => bd (pV [10] 6 (some o) (va_rf (some a6))) fun _ => bd (nA 0 (245760 : Int32)) fun a7 => bd (pV [10] 7 (some o) (va_rf (some a7))) fun _ => bd (nA 0 (32 : Int32)) fun a8 => bd (pV [10] 9 (some o) (va_rf (some a8))) fun _ => bd (nA 0 (32 : Int32)) fun a9 => bd (pV [10] 10 (some o) (va_rf (some a9))) fun _ => bd (nA 0 (4 : Int32)) fun a10 => bd (pV [10] 11 (some o) (va_rf (some a10))) fun _ => bd (nA 0 (4 : Int32)) fun a11 => bd (pV [10] 12 (some o) (va_rf (some a11))) fun _ => bd (nA 0 (4 : Int32)) fun a12 => bd (pV [10] 13 (some o) (va_rf (some a12))) fun _ => bd (nA 0 (4 : Int32)) fun a13 => bd (pV [10] 14 (some o) (va_rf (some a13))) fun _ => bd (nA 0 (36 : Int32)) fun a14 => bd (pV [10] 15 (some o) (va_rf (some a14))) fun _ => bd (nA 0 (4 : Int32)) fun a15 => bd (pV [10] 16 (some o) (va_rf (some a15))) fun _ => bd (nA 0 (4 : Int32)) fun a16 => bd (pV [10] 17 (some o) (va_rf (some a16))) fun _ => bd (nA 0 (4 : Int32)) fun a17 => bd (pV [10] 18 (some o) (va_rf (some a17))) fun _ => bd (nA 5 (1028 : Int32)) fun a18 => bd (pV [10] 19 (some o) (va_rf (some a18))) fun _ => bd (nA 0 (8 : Int32)) fun a19 => bd (pV [10] 20 (some o) (va_rf (some a19))) fun _ => bd (nA 4 (512 : Int32)) fun a20 => bd (pV [10] 21 (some o) (va_rf (some a20))) fun _ => l_X11_init_164 o (l_X11_init_198 o (rt ()) FU (0 : Int32)) FU (0 : Int32)
set_option maxHeartbeats 4000000 in
set_option maxRecDepth 100000 in
theorem wb_X11_init_164 {l : Launch} {D : va_G} {cy : Nat → ClassId} {z : Nat} {p : Program} {e : Env} {R : Room} {s : State} {m : MethodId} {args : Array Value} {below : List Frame} {meth : Method} {c : Code} {ws0 wsf : WS} {rr : Unit} (cx : Cx D cy z RX11 cX11_init 2 none 1 40 "<init>" p R s m meth c) (hE : AC ws0 wsf R.cells R.slots) (x0 : Nat) (rec : Int32 → St (Unit)) (k : St (Unit)) (hrec : ∀ (x1 : Int32), At_ l D cy z p e R s m args below meth c ws0 wsf vU rr 2 164 [(0, .ref x0), (1, .int x1)] [] (rec x1)) (hkk : At_ l D cy z p e R s m args below meth c ws0 wsf vU rr 2 196 [(0, .ref x0)] [] (k)) (x1 : Int32) : At_ l D cy z p e R s m args below meth c ws0 wsf vU rr 2 164 [(0, .ref x0), (1, .int x1)] [] (b_X11_init_164 x0 rec k x1) := by
  intro ws H locs cells slots ls hl hH hF
  obtain ⟨hx, hb, hr, hml, hown, hk, hz, hlocks, hnm, hfr, hlo⟩ := id cx
  unfold b_X11_init_164 at hF
  refine lv_iload_n hx hb dX11_init_164 rfl (lv_at hl 1 rfl) ?_
  refine lv_iconst (v := (4)) hx hb dX11_init_165 (by decide) ?_
  refine lv_icmp_ge (tgt := 196) hx hb dX11_init_166 (by decide) (fun hc20 => ?_) (fun hc20 => ?_)
  · have hF := bq_t hc20 hF
    exact hkk _ _ _ _ _ _ (lv_sub hl [0] rfl) hH hF
  · have hF := bq_f hc20 hF
    refine lv_aload_n hx hb dX11_init_169 rfl (lv_at hl 0 rfl) ?_
    refine m_gR hx hb hown hk hH hF fk_RX11_probeCurve lk_RX11_38 dX11_init_170 (fun v22 hF => ?_)
    refine lv_iload_n hx hb dX11_init_173 rfl (lv_at hl 1 rfl) ?_
    refine lv_iconst (v := (-1)) hx hb dX11_init_174 (by decide) ?_
    refine m_sI0 hx hb hk hH hF dX11_init_175 (fun ws H locs hH hF => ?_)
    refine lv_aload_n hx hb dX11_init_176 rfl (lv_at hl 0 rfl) ?_
    refine m_gR hx hb hown hk hH hF fk_RX11_probeMany lk_RX11_44 dX11_init_177 (fun v23 hF => ?_)
    refine lv_iload_n hx hb dX11_init_180 rfl (lv_at hl 1 rfl) ?_
    refine lv_iconst (v := (1)) hx hb dX11_init_181 (by decide) ?_
    refine m_sI0 hx hb hk hH hF dX11_init_182 (fun ws H locs hH hF => ?_)
    refine lv_aload_n hx hb dX11_init_183 rfl (lv_at hl 0 rfl) ?_
    refine m_gR hx hb hown hk hH hF fk_RX11_tableCurve lk_RX11_56 dX11_init_184 (fun v24 hF => ?_)
    refine lv_iload_n hx hb dX11_init_187 rfl (lv_at hl 1 rfl) ?_
    refine lv_iconst (v := (-1)) hx hb dX11_init_188 (by decide) ?_
    refine m_sI0 hx hb hk hH hF dX11_init_189 (fun ws H locs hH hF => ?_)
    refine lv_iinc (v := (x1 + (1 : Int32))) (lv' := [(1, .int (x1 + (1 : Int32))), (0, .ref x0)]) hx hb dX11_init_190 hl (k := 1) rfl (by first | rfl | (congr 1)) (by decide) (by first | rfl | simp [m_cat, m_ci, m_cl, m_cf, m_cd, m_cr]) (fun ls hl => ?_)
    refine lv_goto (tgt := 164) hx hb dX11_init_193 (by decide) ?_
    exact hrec _ _ _ _ _ _ _ (lv_sub hl [1, 0] rfl) hH hF
theorem w_X11_init_164 {l : Launch} {D : va_G} {cy : Nat → ClassId} {z : Nat} {p : Program} {e : Env} {R : Room} {s : State} {m : MethodId} {args : Array Value} {below : List Frame} {meth : Method} {c : Code} {ws0 wsf : WS} {rr : Unit} (cx : Cx D cy z RX11 cX11_init 2 none 1 40 "<init>" p R s m meth c) (hE : AC ws0 wsf R.cells R.slots) (x0 : Nat) (k : St (Unit)) (hkk : At_ l D cy z p e R s m args below meth c ws0 wsf vU rr 2 196 [(0, .ref x0)] [] (k)) : ∀ (n : Nat) (x1 : Int32), At_ l D cy z p e R s m args below meth c ws0 wsf vU rr 2 164 [(0, .ref x0), (1, .int x1)] [] (l_X11_init_164 x0 k n x1) := by
  intro n
  induction n with
  | zero =>
    intro x1 ws H locs cells slots ls hl hH hF
    exact fl_t hF
  | succ n ih =>
    intro x1
    exact wb_X11_init_164 cx hE x0 (l_X11_init_164 x0 k n) k ih hkk x1
set_option maxHeartbeats 4000000 in
set_option maxRecDepth 100000 in
theorem wb_X11_init_198 {l : Launch} {D : va_G} {cy : Nat → ClassId} {z : Nat} {p : Program} {e : Env} {R : Room} {s : State} {m : MethodId} {args : Array Value} {below : List Frame} {meth : Method} {c : Code} {ws0 wsf : WS} {rr : Unit} (cx : Cx D cy z RX11 cX11_init 2 none 1 40 "<init>" p R s m meth c) (hE : AC ws0 wsf R.cells R.slots) (x0 : Nat) (rec : Int32 → St (Unit)) (k : St (Unit)) (hrec : ∀ (x1 : Int32), At_ l D cy z p e R s m args below meth c ws0 wsf vU rr 2 198 [(0, .ref x0), (1, .int x1)] [] (rec x1)) (hkk : At_ l D cy z p e R s m args below meth c ws0 wsf vU rr 2 217 [] [] (k)) (x1 : Int32) : At_ l D cy z p e R s m args below meth c ws0 wsf vU rr 2 198 [(0, .ref x0), (1, .int x1)] [] (b_X11_init_198 x0 rec k x1) := by
  intro ws H locs cells slots ls hl hH hF
  obtain ⟨hx, hb, hr, hml, hown, hk, hz, hlocks, hnm, hfr, hlo⟩ := id cx
  unfold b_X11_init_198 at hF
  refine lv_iload_n hx hb dX11_init_198 rfl (lv_at hl 1 rfl) ?_
  refine lv_bipush (v := (8)) hx hb dX11_init_199 (by decide) ?_
  refine lv_icmp_ge (tgt := 217) hx hb dX11_init_201 (by decide) (fun hc24 => ?_) (fun hc24 => ?_)
  · have hF := bq_t hc24 hF
    exact hkk _ _ _ _ _ _ (lv_sub hl [] rfl) hH hF
  · have hF := bq_f hc24 hF
    refine lv_aload_n hx hb dX11_init_204 rfl (lv_at hl 0 rfl) ?_
    refine m_gR hx hb hown hk hH hF fk_RX11_bankSize lk_RX11_66 dX11_init_205 (fun v26 hF => ?_)
    refine lv_iload_n hx hb dX11_init_208 rfl (lv_at hl 1 rfl) ?_
    refine lv_iconst (v := (-1)) hx hb dX11_init_209 (by decide) ?_
    refine m_sI0 hx hb hk hH hF dX11_init_210 (fun ws H locs hH hF => ?_)
    refine lv_iinc (v := (x1 + (1 : Int32))) (lv' := [(1, .int (x1 + (1 : Int32))), (0, .ref x0)]) hx hb dX11_init_211 hl (k := 1) rfl (by first | rfl | (congr 1)) (by decide) (by first | rfl | simp [m_cat, m_ci, m_cl, m_cf, m_cd, m_cr]) (fun ls hl => ?_)
    refine lv_goto (tgt := 198) hx hb dX11_init_214 (by decide) ?_
    exact hrec _ _ _ _ _ _ _ (lv_sub hl [1, 0] rfl) hH hF
theorem w_X11_init_198 {l : Launch} {D : va_G} {cy : Nat → ClassId} {z : Nat} {p : Program} {e : Env} {R : Room} {s : State} {m : MethodId} {args : Array Value} {below : List Frame} {meth : Method} {c : Code} {ws0 wsf : WS} {rr : Unit} (cx : Cx D cy z RX11 cX11_init 2 none 1 40 "<init>" p R s m meth c) (hE : AC ws0 wsf R.cells R.slots) (x0 : Nat) (k : St (Unit)) (hkk : At_ l D cy z p e R s m args below meth c ws0 wsf vU rr 2 217 [] [] (k)) : ∀ (n : Nat) (x1 : Int32), At_ l D cy z p e R s m args below meth c ws0 wsf vU rr 2 198 [(0, .ref x0), (1, .int x1)] [] (l_X11_init_198 x0 k n x1) := by
  intro n
  induction n with
  | zero =>
    intro x1 ws H locs cells slots ls hl hH hF
    exact fl_t hF
  | succ n ih =>
    intro x1
    exact wb_X11_init_198 cx hE x0 (l_X11_init_198 x0 k n) k ih hkk x1
set_option maxHeartbeats 4000000 in
set_option maxRecDepth 100000 in
theorem t_X11_init (l : Launch) (D : va_G) (cy : Nat → ClassId) (z : Nat) (o : Nat) : MT l D cy z yX11_init cX11_init 2 none 1 40 (F_X11_init o) vU [.ref o] := by
  refine m_enter [(0, .ref o)] (by decide) (by first | rfl | simp [lv_args, m_cat, m_ci, m_cl, m_cf, m_cd, m_cr]) (by first | exact Nat.le_of_ble_eq_true rfl | simp [lg_sl, m_cat, m_ci, m_cl, m_cf, m_cd, m_cr]) ?_
  intro p e R s m args below meth c ws0 wsf rr cx hE ws H locs cells slots ls hl hH hF
  obtain ⟨hx, hb, hr, hml, hown, hk, hz, hlocks, hnm, hfr, hlo⟩ := id cx
  unfold F_X11_init at hF
  refine lv_aload_n hx hb dX11_init_0 rfl (lv_at hl 0 rfl) ?_
  refine W.objInit hx hb hown (hk.wd wd_770 args) (hk.wd wd_52 args) (hk.wd wd_53 args) rfl (by rw [hml]; exact hl.1) rfl dX11_init_1 (Nat.le_trans (by decide) hfr) (Nat.le_trans (m := 40) (by first | exact Nat.le_of_ble_eq_true rfl | simp [m_cat, m_ci, m_cl, m_cf, m_cd, m_cr]) (Nat.le_trans (by decide) hlo)) ?_
  refine W.eq (g2 := F0 m 4 ls []) rfl ?_
  refine lv_aload_n hx hb dX11_init_4 rfl (lv_at hl 0 rfl) ?_
  refine lv_bipush (v := (8)) hx hb dX11_init_5 (by decide) ?_
  refine m_nA (t := 0) hx hb hk hH hE.le hz (by decide) rfl (by decide) wd_96 hF dX11_init_7 (fun a1 ws H hH hF => ?_)
  refine m_pVF hx hb hown hk hH hnm hF fk_RX11_readings wd_772 rfl pd_0 (m_nra _ _) (m_fra _ _) dX11_init_9 (fun ws H locs hH hF => ?_)
  refine lv_aload_n hx hb dX11_init_12 rfl (lv_at hl 0 rfl) ?_
  refine lv_sipush (v := (192)) hx hb dX11_init_13 (by decide) ?_
  refine m_nA (t := 0) hx hb hk hH hE.le hz (by decide) rfl (by decide) wd_96 hF dX11_init_16 (fun a2 ws H hH hF => ?_)
  refine m_pVF hx hb hown hk hH hnm hF fk_RX11_count wd_773 rfl pd_0 (m_nra _ _) (m_fra _ _) dX11_init_18 (fun ws H locs hH hF => ?_)
  refine lv_aload_n hx hb dX11_init_21 rfl (lv_at hl 0 rfl) ?_
  refine lv_sipush (v := (192)) hx hb dX11_init_22 (by decide) ?_
  refine m_nA (t := 0) hx hb hk hH hE.le hz (by decide) rfl (by decide) wd_96 hF dX11_init_25 (fun a3 ws H hH hF => ?_)
  refine m_pVF hx hb hown hk hH hnm hF fk_RX11_reference wd_774 rfl pd_0 (m_nra _ _) (m_fra _ _) dX11_init_27 (fun ws H locs hH hF => ?_)
  refine lv_aload_n hx hb dX11_init_30 rfl (lv_at hl 0 rfl) ?_
  refine lv_sipush (v := (192)) hx hb dX11_init_31 (by decide) ?_
  refine m_nA (t := 0) hx hb hk hH hE.le hz (by decide) rfl (by decide) wd_96 hF dX11_init_34 (fun a4 ws H hH hF => ?_)
  refine m_pVF hx hb hown hk hH hnm hF fk_RX11_weight wd_775 rfl pd_0 (m_nra _ _) (m_fra _ _) dX11_init_36 (fun ws H locs hH hF => ?_)
  refine lv_aload_n hx hb dX11_init_39 rfl (lv_at hl 0 rfl) ?_
  refine lv_bipush (v := (60)) hx hb dX11_init_40 (by decide) ?_
  refine m_nA (t := 0) hx hb hk hH hE.le hz (by decide) rfl (by decide) wd_96 hF dX11_init_42 (fun a5 ws H hH hF => ?_)
  refine m_pVF hx hb hown hk hH hnm hF fk_RX11_sort wd_777 rfl pd_0 (m_nra _ _) (m_fra _ _) dX11_init_44 (fun ws H locs hH hF => ?_)
  refine lv_aload_n hx hb dX11_init_47 rfl (lv_at hl 0 rfl) ?_
  refine lv_bipush (v := (60)) hx hb dX11_init_48 (by decide) ?_
  refine m_nA (t := 0) hx hb hk hH hE.le hz (by decide) rfl (by decide) wd_96 hF dX11_init_50 (fun a6 ws H hH hF => ?_)
  refine m_pVF hx hb hown hk hH hnm hF fk_RX11_work wd_778 rfl pd_0 (m_nra _ _) (m_fra _ _) dX11_init_52 (fun ws H locs hH hF => ?_)
  refine lv_aload_n hx hb dX11_init_55 rfl (lv_at hl 0 rfl) ?_
  refine lv_ldc hx hb hown (hk.wd wd_771 args) dX11_init_56 ?_
  refine m_nA (t := 0) hx hb hk hH hE.le hz (by decide) rfl (by decide) wd_96 hF dX11_init_58 (fun a7 ws H hH hF => ?_)
  refine m_pVF hx hb hown hk hH hnm hF fk_RX11_value wd_779 rfl pd_0 (m_nra _ _) (m_fra _ _) dX11_init_60 (fun ws H locs hH hF => ?_)
  refine lv_aload_n hx hb dX11_init_63 rfl (lv_at hl 0 rfl) ?_
  refine lv_bipush (v := (32)) hx hb dX11_init_64 (by decide) ?_
  refine m_nA (t := 0) hx hb hk hH hE.le hz (by decide) rfl (by decide) wd_96 hF dX11_init_66 (fun a8 ws H hH hF => ?_)
  refine m_pVF hx hb hown hk hH hnm hF fk_RX11_knotCount wd_781 rfl pd_0 (m_nra _ _) (m_fra _ _) dX11_init_68 (fun ws H locs hH hF => ?_)
  refine lv_aload_n hx hb dX11_init_71 rfl (lv_at hl 0 rfl) ?_
  refine lv_bipush (v := (32)) hx hb dX11_init_72 (by decide) ?_
  refine m_nA (t := 0) hx hb hk hH hE.le hz (by decide) rfl (by decide) wd_96 hF dX11_init_74 (fun a9 ws H hH hF => ?_)
  refine m_pVF hx hb hown hk hH hnm hF fk_RX11_knotValue wd_782 rfl pd_0 (m_nra _ _) (m_fra _ _) dX11_init_76 (fun ws H locs hH hF => ?_)
  refine lv_aload_n hx hb dX11_init_79 rfl (lv_at hl 0 rfl) ?_
  refine lv_iconst (v := (4)) hx hb dX11_init_80 (by decide) ?_
  refine m_nA (t := 0) hx hb hk hH hE.le hz (by decide) rfl (by decide) wd_96 hF dX11_init_81 (fun a10 ws H hH hF => ?_)
  refine m_pVF hx hb hown hk hH hnm hF fk_RX11_probeCurve wd_783 rfl pd_0 (m_nra _ _) (m_fra _ _) dX11_init_83 (fun ws H locs hH hF => ?_)
  refine lv_aload_n hx hb dX11_init_86 rfl (lv_at hl 0 rfl) ?_
  refine lv_iconst (v := (4)) hx hb dX11_init_87 (by decide) ?_
  refine m_nA (t := 0) hx hb hk hH hE.le hz (by decide) rfl (by decide) wd_96 hF dX11_init_88 (fun a11 ws H hH hF => ?_)
  refine m_pVF hx hb hown hk hH hnm hF fk_RX11_probeFilter wd_784 rfl pd_0 (m_nra _ _) (m_fra _ _) dX11_init_90 (fun ws H locs hH hF => ?_)
  refine lv_aload_n hx hb dX11_init_93 rfl (lv_at hl 0 rfl) ?_
  refine lv_iconst (v := (4)) hx hb dX11_init_94 (by decide) ?_
  refine m_nA (t := 0) hx hb hk hH hE.le hz (by decide) rfl (by decide) wd_96 hF dX11_init_95 (fun a12 ws H hH hF => ?_)
  refine m_pVF hx hb hown hk hH hnm hF fk_RX11_probeMany wd_785 rfl pd_0 (m_nra _ _) (m_fra _ _) dX11_init_97 (fun ws H locs hH hF => ?_)
  refine lv_aload_n hx hb dX11_init_100 rfl (lv_at hl 0 rfl) ?_
  refine lv_iconst (v := (4)) hx hb dX11_init_101 (by decide) ?_
  refine m_nA (t := 0) hx hb hk hH hE.le hz (by decide) rfl (by decide) wd_96 hF dX11_init_102 (fun a13 ws H hH hF => ?_)
  refine m_pVF hx hb hown hk hH hnm hF fk_RX11_fed wd_786 rfl pd_0 (m_nra _ _) (m_fra _ _) dX11_init_104 (fun ws H locs hH hF => ?_)
  refine lv_aload_n hx hb dX11_init_107 rfl (lv_at hl 0 rfl) ?_
  refine lv_bipush (v := (36)) hx hb dX11_init_108 (by decide) ?_
  refine m_nA (t := 0) hx hb hk hH hE.le hz (by decide) rfl (by decide) wd_96 hF dX11_init_110 (fun a14 ws H hH hF => ?_)
  refine m_pVF hx hb hown hk hH hnm hF fk_RX11_latest wd_787 rfl pd_0 (m_nra _ _) (m_fra _ _) dX11_init_112 (fun ws H locs hH hF => ?_)
  refine lv_aload_n hx hb dX11_init_115 rfl (lv_at hl 0 rfl) ?_
  refine lv_iconst (v := (4)) hx hb dX11_init_116 (by decide) ?_
  refine m_nA (t := 0) hx hb hk hH hE.le hz (by decide) rfl (by decide) wd_96 hF dX11_init_117 (fun a15 ws H hH hF => ?_)
  refine m_pVF hx hb hown hk hH hnm hF fk_RX11_given wd_788 rfl pd_0 (m_nra _ _) (m_fra _ _) dX11_init_119 (fun ws H locs hH hF => ?_)
  refine lv_aload_n hx hb dX11_init_122 rfl (lv_at hl 0 rfl) ?_
  refine lv_iconst (v := (4)) hx hb dX11_init_123 (by decide) ?_
  refine m_nA (t := 0) hx hb hk hH hE.le hz (by decide) rfl (by decide) wd_96 hF dX11_init_124 (fun a16 ws H hH hF => ?_)
  refine m_pVF hx hb hown hk hH hnm hF fk_RX11_tableCurve wd_789 rfl pd_0 (m_nra _ _) (m_fra _ _) dX11_init_126 (fun ws H locs hH hF => ?_)
  refine lv_aload_n hx hb dX11_init_129 rfl (lv_at hl 0 rfl) ?_
  refine lv_iconst (v := (4)) hx hb dX11_init_130 (by decide) ?_
  refine m_nA (t := 0) hx hb hk hH hE.le hz (by decide) rfl (by decide) wd_96 hF dX11_init_131 (fun a17 ws H hH hF => ?_)
  refine m_pVF hx hb hown hk hH hnm hF fk_RX11_tableStep wd_790 rfl pd_0 (m_nra _ _) (m_fra _ _) dX11_init_133 (fun ws H locs hH hF => ?_)
  refine lv_aload_n hx hb dX11_init_136 rfl (lv_at hl 0 rfl) ?_
  refine lv_sipush (v := (1028)) hx hb dX11_init_137 (by decide) ?_
  refine m_nA (t := 5) hx hb hk hH hE.le hz (by decide) rfl (by decide) wd_101 hF dX11_init_140 (fun a18 ws H hH hF => ?_)
  refine m_pVF hx hb hown hk hH hnm hF fk_RX11_entry wd_791 rfl pd_5 (m_nra _ _) (m_fra _ _) dX11_init_142 (fun ws H locs hH hF => ?_)
  refine lv_aload_n hx hb dX11_init_145 rfl (lv_at hl 0 rfl) ?_
  refine lv_bipush (v := (8)) hx hb dX11_init_146 (by decide) ?_
  refine m_nA (t := 0) hx hb hk hH hE.le hz (by decide) rfl (by decide) wd_96 hF dX11_init_148 (fun a19 ws H hH hF => ?_)
  refine m_pVF hx hb hown hk hH hnm hF fk_RX11_bankSize wd_792 rfl pd_0 (m_nra _ _) (m_fra _ _) dX11_init_150 (fun ws H locs hH hF => ?_)
  refine lv_aload_n hx hb dX11_init_153 rfl (lv_at hl 0 rfl) ?_
  refine lv_sipush (v := (512)) hx hb dX11_init_154 (by decide) ?_
  refine m_nA (t := 4) hx hb hk hH hE.le hz (by decide) rfl (by decide) wd_100 hF dX11_init_157 (fun a20 ws H hH hF => ?_)
  refine m_pVF hx hb hown hk hH hnm hF fk_RX11_bank wd_793 rfl pd_4 (m_nra _ _) (m_fra _ _) dX11_init_159 (fun ws H locs hH hF => ?_)
  refine lv_iconst (v := (0)) hx hb dX11_init_162 (by decide) ?_
  refine lv_istore_n (lv' := [(1, .int (0 : Int32)), (0, .ref o)]) hx hb dX11_init_163 rfl hl (by decide) (by first | rfl | simp [m_cat, m_ci, m_cl, m_cf, m_cd, m_cr]) (fun ls hl => ?_)
  refine w_X11_init_164 cx hE o _ (fun ws H locs cells slots ls hl hH hF => ?_) _ _ _ _ _ _ _ _ (lv_sub hl [1, 0] rfl) hH hF
  refine lv_iconst (v := (0)) hx hb dX11_init_196 (by decide) ?_
  refine lv_istore_n (lv' := [(1, .int (0 : Int32)), (0, .ref o)]) hx hb dX11_init_197 rfl hl (by decide) (by first | rfl | simp [m_cat, m_ci, m_cl, m_cf, m_cd, m_cr]) (fun ls hl => ?_)
  refine w_X11_init_198 cx hE o _ (fun ws H locs cells slots ls hl hH hF => ?_) _ _ _ _ _ _ _ _ (lv_sub hl [1, 0] rfl) hH hF
  exact m_vret hx hb hr hlocks hH hE hF dX11_init_217

def F_X11_floor (x0 : Int64) (x2 : Int64) : St (Int64) :=
  bd (ck (¬ x2 = 0)) fun _ => bd (rt (x0 / x2)) fun v2 => bd (ck (¬ x2 = 0)) fun _ => br (0 ≤ (lg_cmp (x0 - x0 / x2 * x2) (0 : Int64))) (rt v2) (rt (v2 - (1 : Int64)))
set_option maxHeartbeats 4000000 in
set_option maxRecDepth 100000 in
theorem t_X11_floor (l : Launch) (D : va_G) (cy : Nat → ClassId) (z : Nat) (x0 : Int64) (x2 : Int64) : MT l D cy z yX11_floor cX11_floor 6 (some .long) 0 0 (F_X11_floor x0 x2) vL [.long x0, .long x2] := by
  refine m_enter [(0, .long x0), (2, .long x2)] (by decide) (by first | rfl | simp [lv_args, m_cat, m_ci, m_cl, m_cf, m_cd, m_cr]) (by first | exact Nat.le_of_ble_eq_true rfl | simp [lg_sl, m_cat, m_ci, m_cl, m_cf, m_cd, m_cr]) ?_
  intro p e R s m args below meth c ws0 wsf rr cx hE ws H locs cells slots ls hl hH hF
  obtain ⟨hx, hb, hr, hml, hown, hk, hz, hlocks, hnm, hfr, hlo⟩ := id cx
  unfold F_X11_floor at hF
  refine lv_lload_n hx hb dX11_floor_0 rfl (lv_at hl 0 rfl) ?_
  refine lv_lload_n hx hb dX11_floor_1 rfl (lv_at hl 1 rfl) ?_
  obtain ⟨hq0, hF⟩ := ck_t hF
  refine lv_ldiv hx hb dX11_floor_2 hq0 ?_
  refine lv_topl (fun v2 hv2 => ?_)
  have hF := rt_t hv2 hF
  refine lv_lstore (lv' := [(4, .long v2), (0, .long x0), (2, .long x2)]) hx hb dX11_floor_3 hl (by decide) (by first | rfl | simp [m_cat, m_ci, m_cl, m_cf, m_cd, m_cr]) (fun ls hl => ?_)
  refine lv_lload_n hx hb dX11_floor_5 rfl (lv_at hl 1 rfl) ?_
  refine lv_lload_n hx hb dX11_floor_6 rfl (lv_at hl 2 rfl) ?_
  obtain ⟨hq2, hF⟩ := ck_t hF
  refine lv_lrem hx hb dX11_floor_7 hq2 ?_
  refine lv_lconst (v := (0)) hx hb dX11_floor_8 (by decide) ?_
  refine W.lcmp hx hb dX11_floor_9 ?_
  refine lv_if_ge (tgt := 20) hx hb dX11_floor_10 (by decide) (fun hc3 => ?_) (fun hc3 => ?_)
  · have hF := bq_t hc3 hF
    refine lv_lload hx hb dX11_floor_20 (lv_at hl 0 rfl) ?_
    exact m_lret hx hb hr hlocks hH hE hF dX11_floor_22
  · have hF := bq_f hc3 hF
    refine lv_lload hx hb dX11_floor_13 (lv_at hl 0 rfl) ?_
    refine lv_lconst (v := (1)) hx hb dX11_floor_15 (by decide) ?_
    refine lv_lsub hx hb dX11_floor_16 ?_
    refine lv_goto (tgt := 22) hx hb dX11_floor_17 (by decide) ?_
    exact m_lret hx hb hr hlocks hH hE hF dX11_floor_22

def j_X11_rounded_42 (x4 : Int64) : St (Int64) :=
  rt (x4 + (1 : Int64))
def F_X11_rounded (x0 : Int64) (x2 : Int64) : St (Int64) :=
  bd (F_X11_floor x0 x2) fun c1 => bd (rt ((2 : Int64) * (x0 - (c1 * x2)))) fun v2 => br (0 < (lg_cmp v2 x2)) (j_X11_rounded_42 c1) (br ((lg_cmp v2 x2) = 0) (br ((lg_cmp (c1 &&& (1 : Int64)) (0 : Int64)) = 0) (rt c1) (j_X11_rounded_42 c1)) (rt c1))
set_option maxHeartbeats 4000000 in
set_option maxRecDepth 100000 in
theorem w_X11_rounded_42 {l : Launch} {D : va_G} {cy : Nat → ClassId} {z : Nat} {p : Program} {e : Env} {R : Room} {s : State} {m : MethodId} {args : Array Value} {below : List Frame} {meth : Method} {c : Code} {ws0 wsf : WS} {rr : Int64} (cx : Cx D cy z RX11 cX11_rounded 8 (some .long) 1 40 "rounded" p R s m meth c) (hE : AC ws0 wsf R.cells R.slots) (x4 : Int64) : At_ l D cy z p e R s m args below meth c ws0 wsf vL rr 8 42 [(4, .long x4)] [] (j_X11_rounded_42 x4) := by
  intro ws H locs cells slots ls hl hH hF
  obtain ⟨hx, hb, hr, hml, hown, hk, hz, hlocks, hnm, hfr, hlo⟩ := id cx
  unfold j_X11_rounded_42 at hF
  refine lv_lload hx hb dX11_rounded_42 (lv_at hl 0 rfl) ?_
  refine lv_lconst (v := (1)) hx hb dX11_rounded_44 (by decide) ?_
  refine lv_ladd hx hb dX11_rounded_45 ?_
  refine lv_goto (tgt := 51) hx hb dX11_rounded_46 (by decide) ?_
  exact m_lret hx hb hr hlocks hH hE hF dX11_rounded_51
set_option maxHeartbeats 4000000 in
set_option maxRecDepth 100000 in
theorem t_X11_rounded (l : Launch) (D : va_G) (cy : Nat → ClassId) (z : Nat) (x0 : Int64) (x2 : Int64) : MT l D cy z yX11_rounded cX11_rounded 8 (some .long) 1 40 (F_X11_rounded x0 x2) vL [.long x0, .long x2] := by
  refine m_enter [(0, .long x0), (2, .long x2)] (by decide) (by first | rfl | simp [lv_args, m_cat, m_ci, m_cl, m_cf, m_cd, m_cr]) (by first | exact Nat.le_of_ble_eq_true rfl | simp [lg_sl, m_cat, m_ci, m_cl, m_cf, m_cd, m_cr]) ?_
  intro p e R s m args below meth c ws0 wsf rr cx hE ws H locs cells slots ls hl hH hF
  obtain ⟨hx, hb, hr, hml, hown, hk, hz, hlocks, hnm, hfr, hlo⟩ := id cx
  unfold F_X11_rounded at hF
  refine lv_lload_n hx hb dX11_rounded_0 rfl (lv_at hl 0 rfl) ?_
  refine lv_lload_n hx hb dX11_rounded_1 rfl (lv_at hl 1 rfl) ?_
  refine m_cSL hx hb hml hown hk hH hE.le hz (As := [.long x0, .long x2]) (rest := []) (t_X11_floor l D cy z x0 x2) hF wd_868 wd_869 wd_38 wd_870 yn_X11_floor ⟨Nat.le_trans (by decide) hfr, Nat.le_trans (by decide) hlo⟩ hl.1 (by first | exact Nat.le_of_ble_eq_true rfl | simp [m_cat, m_ci, m_cl, m_cf, m_cd, m_cr]) rfl dX11_rounded_2 (fun c1 ws H locs cells slots hH hF => ?_)
  refine lv_lstore (lv' := [(4, .long c1), (0, .long x0), (2, .long x2)]) hx hb dX11_rounded_5 hl (by decide) (by first | rfl | simp [m_cat, m_ci, m_cl, m_cf, m_cd, m_cr]) (fun ls hl => ?_)
  refine lv_ldc2 hx hb hown (hk.wd wd_871 args) dX11_rounded_7 ?_
  refine lv_lload_n hx hb dX11_rounded_10 rfl (lv_at hl 1 rfl) ?_
  refine lv_lload hx hb dX11_rounded_11 (lv_at hl 0 rfl) ?_
  refine lv_lload_n hx hb dX11_rounded_13 rfl (lv_at hl 2 rfl) ?_
  refine lv_lmul hx hb dX11_rounded_14 ?_
  refine lv_lsub hx hb dX11_rounded_15 ?_
  refine lv_lmul hx hb dX11_rounded_16 ?_
  refine lv_topl (fun v2 hv2 => ?_)
  have hF := rt_t hv2 hF
  refine lv_lstore (lv' := [(6, .long v2), (4, .long c1), (0, .long x0), (2, .long x2)]) hx hb dX11_rounded_17 hl (by decide) (by first | rfl | simp [m_cat, m_ci, m_cl, m_cf, m_cd, m_cr]) (fun ls hl => ?_)
  refine lv_lload hx hb dX11_rounded_19 (lv_at hl 0 rfl) ?_
  refine lv_lload_n hx hb dX11_rounded_21 rfl (lv_at hl 3 rfl) ?_
  refine W.lcmp hx hb dX11_rounded_22 ?_
  refine lv_if_gt (tgt := 42) hx hb dX11_rounded_23 (by decide) (fun hc2 => ?_) (fun hc2 => ?_)
  · have hF := bq_t hc2 hF
    exact w_X11_rounded_42 cx hE c1 _ _ _ _ _ _ (lv_sub hl [1] rfl) hH hF
  · have hF := bq_f hc2 hF
    refine lv_lload hx hb dX11_rounded_26 (lv_at hl 0 rfl) ?_
    refine lv_lload_n hx hb dX11_rounded_28 rfl (lv_at hl 3 rfl) ?_
    refine W.lcmp hx hb dX11_rounded_29 ?_
    refine lv_if_ne (tgt := 49) hx hb dX11_rounded_30 (by decide) (fun hc3 => ?_) (fun hc3 => ?_)
    · have hF := bq_f hc3 hF
      refine lv_lload hx hb dX11_rounded_49 (lv_at hl 1 rfl) ?_
      exact m_lret hx hb hr hlocks hH hE hF dX11_rounded_51
    · have hF := bq_t hc3 hF
      refine lv_lload hx hb dX11_rounded_33 (lv_at hl 1 rfl) ?_
      refine lv_lconst (v := (1)) hx hb dX11_rounded_35 (by decide) ?_
      refine lv_land hx hb dX11_rounded_36 ?_
      refine lv_lconst (v := (0)) hx hb dX11_rounded_37 (by decide) ?_
      refine W.lcmp hx hb dX11_rounded_38 ?_
      refine lv_if_eq (tgt := 49) hx hb dX11_rounded_39 (by decide) (fun hc4 => ?_) (fun hc4 => ?_)
      · have hF := bq_t hc4 hF
        refine lv_lload hx hb dX11_rounded_49 (lv_at hl 1 rfl) ?_
        exact m_lret hx hb hr hlocks hH hE hF dX11_rounded_51
      · have hF := bq_f hc4 hF
        exact w_X11_rounded_42 cx hE c1 _ _ _ _ _ _ (lv_sub hl [1] rfl) hH hF

def F_X11_bounded (x0 : Int64) : St (Int32) :=
  br (0 ≤ (lg_cmp x0 (-1000000 : Int64))) (br ((lg_cmp x0 (1000000 : Int64)) ≤ 0) (rt x0.toInt32) (rt (1000000 : Int32))) (rt (-1000000 : Int32))
set_option maxHeartbeats 4000000 in
set_option maxRecDepth 100000 in
theorem t_X11_bounded (l : Launch) (D : va_G) (cy : Nat → ClassId) (z : Nat) (x0 : Int64) : MT l D cy z yX11_bounded cX11_bounded 2 (some .int) 0 0 (F_X11_bounded x0) vI [.long x0] := by
  refine m_enter [(0, .long x0)] (by decide) (by first | rfl | simp [lv_args, m_cat, m_ci, m_cl, m_cf, m_cd, m_cr]) (by first | exact Nat.le_of_ble_eq_true rfl | simp [lg_sl, m_cat, m_ci, m_cl, m_cf, m_cd, m_cr]) ?_
  intro p e R s m args below meth c ws0 wsf rr cx hE ws H locs cells slots ls hl hH hF
  obtain ⟨hx, hb, hr, hml, hown, hk, hz, hlocks, hnm, hfr, hlo⟩ := id cx
  unfold F_X11_bounded at hF
  refine lv_lload_n hx hb dX11_bounded_0 rfl (lv_at hl 0 rfl) ?_
  refine lv_ldc2 hx hb hown (hk.wd wd_875 args) dX11_bounded_1 ?_
  refine W.lcmp hx hb dX11_bounded_4 ?_
  refine lv_if_ge (tgt := 13) hx hb dX11_bounded_5 (by decide) (fun hc0 => ?_) (fun hc0 => ?_)
  · have hF := bq_t hc0 hF
    refine lv_lload_n hx hb dX11_bounded_13 rfl (lv_at hl 0 rfl) ?_
    refine lv_ldc2 hx hb hown (hk.wd wd_877 args) dX11_bounded_14 ?_
    refine W.lcmp hx hb dX11_bounded_17 ?_
    refine lv_if_le (tgt := 26) hx hb dX11_bounded_18 (by decide) (fun hc1 => ?_) (fun hc1 => ?_)
    · have hF := bq_t hc1 hF
      refine lv_lload_n hx hb dX11_bounded_26 rfl (lv_at hl 0 rfl) ?_
      refine lv_l2i hx hb dX11_bounded_27 rfl ?_
      exact m_iret hx hb hr hlocks hH hE hF rfl dX11_bounded_28
    · have hF := bq_f hc1 hF
      refine lv_ldc hx hb hown (hk.wd wd_878 args) dX11_bounded_21 ?_
      refine lv_goto (tgt := 28) hx hb dX11_bounded_23 (by decide) ?_
      exact m_iret hx hb hr hlocks hH hE hF rfl dX11_bounded_28
  · have hF := bq_f hc0 hF
    refine lv_ldc hx hb hown (hk.wd wd_876 args) dX11_bounded_8 ?_
    refine lv_goto (tgt := 28) hx hb dX11_bounded_10 (by decide) ?_
    exact m_iret hx hb hr hlocks hH hE hF rfl dX11_bounded_28

def F_X11_isCount (x0 : Int32) : St (Int32) :=
  br (x0 < 0) (rt (0 : Int32)) (br ((4096 : Int32) ≤ x0) (rt (0 : Int32)) (rt (1 : Int32)))
set_option maxHeartbeats 4000000 in
set_option maxRecDepth 100000 in
theorem t_X11_isCount (l : Launch) (D : va_G) (cy : Nat → ClassId) (z : Nat) (x0 : Int32) : MT l D cy z yX11_isCount cX11_isCount 1 (some .boolean) 0 0 (F_X11_isCount x0) vI [.int x0] := by
  refine m_enter [(0, .int x0)] (by decide) (by first | rfl | simp [lv_args, m_cat, m_ci, m_cl, m_cf, m_cd, m_cr]) (by first | exact Nat.le_of_ble_eq_true rfl | simp [lg_sl, m_cat, m_ci, m_cl, m_cf, m_cd, m_cr]) ?_
  intro p e R s m args below meth c ws0 wsf rr cx hE ws H locs cells slots ls hl hH hF
  obtain ⟨hx, hb, hr, hml, hown, hk, hz, hlocks, hnm, hfr, hlo⟩ := id cx
  unfold F_X11_isCount at hF
  refine lv_iload_n hx hb dX11_isCount_0 rfl (lv_at hl 0 rfl) ?_
  refine lv_if_lt (tgt := 15) hx hb dX11_isCount_1 (by decide) (fun hc0 => ?_) (fun hc0 => ?_)
  · have hF := bq_t hc0 hF
    refine lv_iconst (v := (0)) hx hb dX11_isCount_15 (by decide) ?_
    exact m_iret hx hb hr hlocks hH hE hF rfl dX11_isCount_16
  · have hF := bq_f hc0 hF
    refine lv_iload_n hx hb dX11_isCount_4 rfl (lv_at hl 0 rfl) ?_
    refine lv_sipush (v := (4096)) hx hb dX11_isCount_5 (by decide) ?_
    refine lv_icmp_ge (tgt := 15) hx hb dX11_isCount_8 (by decide) (fun hc1 => ?_) (fun hc1 => ?_)
    · have hF := bq_t hc1 hF
      refine lv_iconst (v := (0)) hx hb dX11_isCount_15 (by decide) ?_
      exact m_iret hx hb hr hlocks hH hE hF rfl dX11_isCount_16
    · have hF := bq_f hc1 hF
      refine lv_iconst (v := (1)) hx hb dX11_isCount_11 (by decide) ?_
      refine lv_goto (tgt := 16) hx hb dX11_isCount_12 (by decide) ?_
      exact m_iret hx hb hr hlocks hH hE hF rfl dX11_isCount_16

def F_X11_isValue (x0 : Int32) : St (Int32) :=
  br (x0 < (-1000000 : Int32)) (rt (0 : Int32)) (br ((1000000 : Int32) < x0) (rt (0 : Int32)) (rt (1 : Int32)))
set_option maxHeartbeats 4000000 in
set_option maxRecDepth 100000 in
theorem t_X11_isValue (l : Launch) (D : va_G) (cy : Nat → ClassId) (z : Nat) (x0 : Int32) : MT l D cy z yX11_isValue cX11_isValue 1 (some .boolean) 0 0 (F_X11_isValue x0) vI [.int x0] := by
  refine m_enter [(0, .int x0)] (by decide) (by first | rfl | simp [lv_args, m_cat, m_ci, m_cl, m_cf, m_cd, m_cr]) (by first | exact Nat.le_of_ble_eq_true rfl | simp [lg_sl, m_cat, m_ci, m_cl, m_cf, m_cd, m_cr]) ?_
  intro p e R s m args below meth c ws0 wsf rr cx hE ws H locs cells slots ls hl hH hF
  obtain ⟨hx, hb, hr, hml, hown, hk, hz, hlocks, hnm, hfr, hlo⟩ := id cx
  unfold F_X11_isValue at hF
  refine lv_iload_n hx hb dX11_isValue_0 rfl (lv_at hl 0 rfl) ?_
  refine lv_ldc hx hb hown (hk.wd wd_876 args) dX11_isValue_1 ?_
  refine lv_icmp_lt (tgt := 16) hx hb dX11_isValue_3 (by decide) (fun hc0 => ?_) (fun hc0 => ?_)
  · have hF := bq_t hc0 hF
    refine lv_iconst (v := (0)) hx hb dX11_isValue_16 (by decide) ?_
    exact m_iret hx hb hr hlocks hH hE hF rfl dX11_isValue_17
  · have hF := bq_f hc0 hF
    refine lv_iload_n hx hb dX11_isValue_6 rfl (lv_at hl 0 rfl) ?_
    refine lv_ldc hx hb hown (hk.wd wd_878 args) dX11_isValue_7 ?_
    refine lv_icmp_gt (tgt := 16) hx hb dX11_isValue_9 (by decide) (fun hc1 => ?_) (fun hc1 => ?_)
    · have hF := bq_t hc1 hF
      refine lv_iconst (v := (0)) hx hb dX11_isValue_16 (by decide) ?_
      exact m_iret hx hb hr hlocks hH hE hF rfl dX11_isValue_17
    · have hF := bq_f hc1 hF
      refine lv_iconst (v := (1)) hx hb dX11_isValue_12 (by decide) ?_
      refine lv_goto (tgt := 17) hx hb dX11_isValue_13 (by decide) ?_
      exact m_iret hx hb hr hlocks hH hE hF rfl dX11_isValue_17

def F_X11_isSensor (x0 : Int32) : St (Int32) :=
  br (x0 < 0) (rt (0 : Int32)) (br ((8 : Int32) ≤ x0) (rt (0 : Int32)) (rt (1 : Int32)))
set_option maxHeartbeats 4000000 in
set_option maxRecDepth 100000 in
theorem t_X11_isSensor (l : Launch) (D : va_G) (cy : Nat → ClassId) (z : Nat) (x0 : Int32) : MT l D cy z yX11_isSensor cX11_isSensor 1 (some .boolean) 0 0 (F_X11_isSensor x0) vI [.int x0] := by
  refine m_enter [(0, .int x0)] (by decide) (by first | rfl | simp [lv_args, m_cat, m_ci, m_cl, m_cf, m_cd, m_cr]) (by first | exact Nat.le_of_ble_eq_true rfl | simp [lg_sl, m_cat, m_ci, m_cl, m_cf, m_cd, m_cr]) ?_
  intro p e R s m args below meth c ws0 wsf rr cx hE ws H locs cells slots ls hl hH hF
  obtain ⟨hx, hb, hr, hml, hown, hk, hz, hlocks, hnm, hfr, hlo⟩ := id cx
  unfold F_X11_isSensor at hF
  refine lv_iload_n hx hb dX11_isSensor_0 rfl (lv_at hl 0 rfl) ?_
  refine lv_if_lt (tgt := 14) hx hb dX11_isSensor_1 (by decide) (fun hc0 => ?_) (fun hc0 => ?_)
  · have hF := bq_t hc0 hF
    refine lv_iconst (v := (0)) hx hb dX11_isSensor_14 (by decide) ?_
    exact m_iret hx hb hr hlocks hH hE hF rfl dX11_isSensor_15
  · have hF := bq_f hc0 hF
    refine lv_iload_n hx hb dX11_isSensor_4 rfl (lv_at hl 0 rfl) ?_
    refine lv_bipush (v := (8)) hx hb dX11_isSensor_5 (by decide) ?_
    refine lv_icmp_ge (tgt := 14) hx hb dX11_isSensor_7 (by decide) (fun hc1 => ?_) (fun hc1 => ?_)
    · have hF := bq_t hc1 hF
      refine lv_iconst (v := (0)) hx hb dX11_isSensor_14 (by decide) ?_
      exact m_iret hx hb hr hlocks hH hE hF rfl dX11_isSensor_15
    · have hF := bq_f hc1 hF
      refine lv_iconst (v := (1)) hx hb dX11_isSensor_10 (by decide) ?_
      refine lv_goto (tgt := 15) hx hb dX11_isSensor_11 (by decide) ?_
      exact m_iret hx hb hr hlocks hH hE hF rfl dX11_isSensor_15

def F_X11_isCurve (o : Nat) (x1 : Int32) : St (Int32) :=
  br (x1 < 0) (rt (0 : Int32)) (bd (gI [10] 4 (some o)) fun v2 => br (v2 ≤ x1) (rt (0 : Int32)) (rt (1 : Int32)))
set_option maxHeartbeats 4000000 in
set_option maxRecDepth 100000 in
theorem t_X11_isCurve (l : Launch) (D : va_G) (cy : Nat → ClassId) (z : Nat) (o : Nat) (x1 : Int32) : MT l D cy z yX11_isCurve cX11_isCurve 2 (some .boolean) 0 0 (F_X11_isCurve o x1) vI [.ref o, .int x1] := by
  refine m_enter [(0, .ref o), (1, .int x1)] (by decide) (by first | rfl | simp [lv_args, m_cat, m_ci, m_cl, m_cf, m_cd, m_cr]) (by first | exact Nat.le_of_ble_eq_true rfl | simp [lg_sl, m_cat, m_ci, m_cl, m_cf, m_cd, m_cr]) ?_
  intro p e R s m args below meth c ws0 wsf rr cx hE ws H locs cells slots ls hl hH hF
  obtain ⟨hx, hb, hr, hml, hown, hk, hz, hlocks, hnm, hfr, hlo⟩ := id cx
  unfold F_X11_isCurve at hF
  refine lv_iload_n hx hb dX11_isCurve_0 rfl (lv_at hl 1 rfl) ?_
  refine lv_if_lt (tgt := 16) hx hb dX11_isCurve_1 (by decide) (fun hc0 => ?_) (fun hc0 => ?_)
  · have hF := bq_t hc0 hF
    refine lv_iconst (v := (0)) hx hb dX11_isCurve_16 (by decide) ?_
    exact m_iret hx hb hr hlocks hH hE hF rfl dX11_isCurve_17
  · have hF := bq_f hc0 hF
    refine lv_iload_n hx hb dX11_isCurve_4 rfl (lv_at hl 1 rfl) ?_
    refine lv_aload_n hx hb dX11_isCurve_5 rfl (lv_at hl 0 rfl) ?_
    refine m_gI hx hb hown hk hH hF fk_RX11_curves lk_RX11_85 dX11_isCurve_6 (fun v2 hF => ?_)
    refine lv_icmp_ge (tgt := 16) hx hb dX11_isCurve_9 (by decide) (fun hc2 => ?_) (fun hc2 => ?_)
    · have hF := bq_t hc2 hF
      refine lv_iconst (v := (0)) hx hb dX11_isCurve_16 (by decide) ?_
      exact m_iret hx hb hr hlocks hH hE hF rfl dX11_isCurve_17
    · have hF := bq_f hc2 hF
      refine lv_iconst (v := (1)) hx hb dX11_isCurve_12 (by decide) ?_
      refine lv_goto (tgt := 17) hx hb dX11_isCurve_13 (by decide) ?_
      exact m_iret hx hb hr hlocks hH hE hF rfl dX11_isCurve_17

def F_X11_reading (o : Nat) (x1 : Int32) (x2 : Int32) (x3 : Int32) (x4 : Int32) : St (Int32) :=
  bd (F_X11_isSensor x1) fun c1 => br (c1 = 0) (rt (-2 : Int32)) (bd (F_X11_isCount x2) fun c3 => br (c3 = 0) (rt (-2 : Int32)) (br (x3 < (-10000 : Int32)) (rt (-2 : Int32)) (br ((10000 : Int32) < x3) (rt (-2 : Int32)) (br (x4 < (1 : Int32)) (rt (-2 : Int32)) (br ((20 : Int32) < x4) (rt (-2 : Int32)) (bd (gR [10] 0 (some o)) fun v9 => bd (aI 0 v9 x1) fun v10 => br (v10 = (24 : Int32)) (rt (-2 : Int32)) (bd (gR [10] 0 (some o)) fun v12 => bd (aI 0 v12 x1) fun v13 => bd (rt (((24 : Int32) * x1) + v13)) fun v14 => bd (gR [10] 1 (some o)) fun v15 => bd (sI 0 v15 v14 x2) fun _ => bd (gR [10] 2 (some o)) fun v16 => bd (sI 0 v16 v14 x3) fun _ => bd (gR [10] 3 (some o)) fun v17 => bd (sI 0 v17 v14 x4) fun _ => bd (gR [10] 0 (some o)) fun v18 => bd (aI 0 v18 x1) fun v19 => bd (sI 0 v18 x1 (v19 + (1 : Int32))) fun _ => bd (gR [10] 0 (some o)) fun v20 => bd (aI 0 v20 x1) fun v21 => rt v21)))))))
set_option maxHeartbeats 4000000 in
set_option maxRecDepth 100000 in
theorem t_X11_reading (l : Launch) (D : va_G) (cy : Nat → ClassId) (z : Nat) (o : Nat) (x1 : Int32) (x2 : Int32) (x3 : Int32) (x4 : Int32) : MT l D cy z yX11_reading cX11_reading 6 (some .int) 1 40 (F_X11_reading o x1 x2 x3 x4) vI [.ref o, .int x1, .int x2, .int x3, .int x4] := by
  refine m_enter [(0, .ref o), (1, .int x1), (2, .int x2), (3, .int x3), (4, .int x4)] (by decide) (by first | rfl | simp [lv_args, m_cat, m_ci, m_cl, m_cf, m_cd, m_cr]) (by first | exact Nat.le_of_ble_eq_true rfl | simp [lg_sl, m_cat, m_ci, m_cl, m_cf, m_cd, m_cr]) ?_
  intro p e R s m args below meth c ws0 wsf rr cx hE ws H locs cells slots ls hl hH hF
  obtain ⟨hx, hb, hr, hml, hown, hk, hz, hlocks, hnm, hfr, hlo⟩ := id cx
  unfold F_X11_reading at hF
  refine lv_iload_n hx hb dX11_reading_0 rfl (lv_at hl 1 rfl) ?_
  refine m_cSI hx hb hml hown hk hH hE.le hz (As := [.int x1]) (rest := []) (t_X11_isSensor l D cy z x1) hF wd_843 wd_844 wd_38 wd_845 yn_X11_isSensor ⟨Nat.le_trans (by decide) hfr, Nat.le_trans (by decide) hlo⟩ hl.1 (by first | exact Nat.le_of_ble_eq_true rfl | simp [m_cat, m_ci, m_cl, m_cf, m_cd, m_cr]) rfl dX11_reading_1 (fun c1 ws H locs cells slots hH hF => ?_)
  refine lv_if_eq (tgt := 52) hx hb dX11_reading_4 (by decide) (fun hc1 => ?_) (fun hc1 => ?_)
  · have hF := bq_t hc1 hF
    refine lv_bipush (v := (-2)) hx hb dX11_reading_52 (by decide) ?_
    exact m_iret hx hb hr hlocks hH hE hF rfl dX11_reading_54
  · have hF := bq_f hc1 hF
    refine lv_iload_n hx hb dX11_reading_7 rfl (lv_at hl 2 rfl) ?_
    refine m_cSI hx hb hml hown hk hH hE.le hz (As := [.int x2]) (rest := []) (t_X11_isCount l D cy z x2) hF wd_846 wd_847 wd_38 wd_848 yn_X11_isCount ⟨Nat.le_trans (by decide) hfr, Nat.le_trans (by decide) hlo⟩ hl.1 (by first | exact Nat.le_of_ble_eq_true rfl | simp [m_cat, m_ci, m_cl, m_cf, m_cd, m_cr]) rfl dX11_reading_8 (fun c3 ws H locs cells slots hH hF => ?_)
    refine lv_if_eq (tgt := 52) hx hb dX11_reading_11 (by decide) (fun hc3 => ?_) (fun hc3 => ?_)
    · have hF := bq_t hc3 hF
      refine lv_bipush (v := (-2)) hx hb dX11_reading_52 (by decide) ?_
      exact m_iret hx hb hr hlocks hH hE hF rfl dX11_reading_54
    · have hF := bq_f hc3 hF
      refine lv_iload_n hx hb dX11_reading_14 rfl (lv_at hl 3 rfl) ?_
      refine lv_sipush (v := (-10000)) hx hb dX11_reading_15 (by decide) ?_
      refine lv_icmp_lt (tgt := 52) hx hb dX11_reading_18 (by decide) (fun hc4 => ?_) (fun hc4 => ?_)
      · have hF := bq_t hc4 hF
        refine lv_bipush (v := (-2)) hx hb dX11_reading_52 (by decide) ?_
        exact m_iret hx hb hr hlocks hH hE hF rfl dX11_reading_54
      · have hF := bq_f hc4 hF
        refine lv_iload_n hx hb dX11_reading_21 rfl (lv_at hl 3 rfl) ?_
        refine lv_sipush (v := (10000)) hx hb dX11_reading_22 (by decide) ?_
        refine lv_icmp_gt (tgt := 52) hx hb dX11_reading_25 (by decide) (fun hc5 => ?_) (fun hc5 => ?_)
        · have hF := bq_t hc5 hF
          refine lv_bipush (v := (-2)) hx hb dX11_reading_52 (by decide) ?_
          exact m_iret hx hb hr hlocks hH hE hF rfl dX11_reading_54
        · have hF := bq_f hc5 hF
          refine lv_iload hx hb dX11_reading_28 (lv_at hl 4 rfl) ?_
          refine lv_iconst (v := (1)) hx hb dX11_reading_30 (by decide) ?_
          refine lv_icmp_lt (tgt := 52) hx hb dX11_reading_31 (by decide) (fun hc6 => ?_) (fun hc6 => ?_)
          · have hF := bq_t hc6 hF
            refine lv_bipush (v := (-2)) hx hb dX11_reading_52 (by decide) ?_
            exact m_iret hx hb hr hlocks hH hE hF rfl dX11_reading_54
          · have hF := bq_f hc6 hF
            refine lv_iload hx hb dX11_reading_34 (lv_at hl 4 rfl) ?_
            refine lv_bipush (v := (20)) hx hb dX11_reading_36 (by decide) ?_
            refine lv_icmp_gt (tgt := 52) hx hb dX11_reading_38 (by decide) (fun hc7 => ?_) (fun hc7 => ?_)
            · have hF := bq_t hc7 hF
              refine lv_bipush (v := (-2)) hx hb dX11_reading_52 (by decide) ?_
              exact m_iret hx hb hr hlocks hH hE hF rfl dX11_reading_54
            · have hF := bq_f hc7 hF
              refine lv_aload_n hx hb dX11_reading_41 rfl (lv_at hl 0 rfl) ?_
              refine m_gR hx hb hown hk hH hF fk_RX11_readings lk_RX11_9 dX11_reading_42 (fun v9 hF => ?_)
              refine lv_iload_n hx hb dX11_reading_45 rfl (lv_at hl 1 rfl) ?_
              refine m_aI0 hx hb hk hH hF dX11_reading_46 (fun v10 hF => ?_)
              refine lv_bipush (v := (24)) hx hb dX11_reading_47 (by decide) ?_
              refine lv_icmp_ne (tgt := 55) hx hb dX11_reading_49 (by decide) (fun hc10 => ?_) (fun hc10 => ?_)
              · have hF := bq_f hc10 hF
                refine lv_bipush (v := (24)) hx hb dX11_reading_55 (by decide) ?_
                refine lv_iload_n hx hb dX11_reading_57 rfl (lv_at hl 1 rfl) ?_
                refine lv_imul hx hb dX11_reading_58 ?_
                refine lv_aload_n hx hb dX11_reading_59 rfl (lv_at hl 0 rfl) ?_
                refine m_gR hx hb hown hk hH hF fk_RX11_readings lk_RX11_9 dX11_reading_60 (fun v12 hF => ?_)
                refine lv_iload_n hx hb dX11_reading_63 rfl (lv_at hl 1 rfl) ?_
                refine m_aI0 hx hb hk hH hF dX11_reading_64 (fun v13 hF => ?_)
                refine lv_iadd hx hb dX11_reading_65 ?_
                refine lv_topi (fun v14 hv14 => ?_)
                have hF := rt_t hv14 hF
                refine lv_istore (lv' := [(5, .int v14), (0, .ref o), (1, .int x1), (2, .int x2), (3, .int x3), (4, .int x4)]) hx hb dX11_reading_66 hl (by decide) (by first | rfl | simp [m_cat, m_ci, m_cl, m_cf, m_cd, m_cr]) (fun ls hl => ?_)
                refine lv_aload_n hx hb dX11_reading_68 rfl (lv_at hl 1 rfl) ?_
                refine m_gR hx hb hown hk hH hF fk_RX11_count lk_RX11_13 dX11_reading_69 (fun v15 hF => ?_)
                refine lv_iload hx hb dX11_reading_72 (lv_at hl 0 rfl) ?_
                refine lv_iload_n hx hb dX11_reading_74 rfl (lv_at hl 3 rfl) ?_
                refine m_sI0 hx hb hk hH hF dX11_reading_75 (fun ws H locs hH hF => ?_)
                refine lv_aload_n hx hb dX11_reading_76 rfl (lv_at hl 1 rfl) ?_
                refine m_gR hx hb hown hk hH hF fk_RX11_reference lk_RX11_16 dX11_reading_77 (fun v16 hF => ?_)
                refine lv_iload hx hb dX11_reading_80 (lv_at hl 0 rfl) ?_
                refine lv_iload_n hx hb dX11_reading_82 rfl (lv_at hl 4 rfl) ?_
                refine m_sI0 hx hb hk hH hF dX11_reading_83 (fun ws H locs hH hF => ?_)
                refine lv_aload_n hx hb dX11_reading_84 rfl (lv_at hl 1 rfl) ?_
                refine m_gR hx hb hown hk hH hF fk_RX11_weight lk_RX11_19 dX11_reading_85 (fun v17 hF => ?_)
                refine lv_iload hx hb dX11_reading_88 (lv_at hl 0 rfl) ?_
                refine lv_iload hx hb dX11_reading_90 (lv_at hl 5 rfl) ?_
                refine m_sI0 hx hb hk hH hF dX11_reading_92 (fun ws H locs hH hF => ?_)
                refine lv_aload_n hx hb dX11_reading_93 rfl (lv_at hl 1 rfl) ?_
                refine m_gR hx hb hown hk hH hF fk_RX11_readings lk_RX11_9 dX11_reading_94 (fun v18 hF => ?_)
                refine lv_iload_n hx hb dX11_reading_97 rfl (lv_at hl 2 rfl) ?_
                refine lv_dup2_11 hx hb dX11_reading_98 rfl (m_cat _) ?_
                refine m_aI0 hx hb hk hH hF dX11_reading_99 (fun v19 hF => ?_)
                refine lv_iconst (v := (1)) hx hb dX11_reading_100 (by decide) ?_
                refine lv_iadd hx hb dX11_reading_101 ?_
                refine m_sI0 hx hb hk hH hF dX11_reading_102 (fun ws H locs hH hF => ?_)
                refine lv_aload_n hx hb dX11_reading_103 rfl (lv_at hl 1 rfl) ?_
                refine m_gR hx hb hown hk hH hF fk_RX11_readings lk_RX11_9 dX11_reading_104 (fun v20 hF => ?_)
                refine lv_iload_n hx hb dX11_reading_107 rfl (lv_at hl 2 rfl) ?_
                refine m_aI0 hx hb hk hH hF dX11_reading_108 (fun v21 hF => ?_)
                exact m_iret hx hb hr hlocks hH hE hF rfl dX11_reading_109
              · have hF := bq_t hc10 hF
                refine lv_bipush (v := (-2)) hx hb dX11_reading_52 (by decide) ?_
                exact m_iret hx hb hr hlocks hH hE hF rfl dX11_reading_54

def F_X11_isReading (o : Nat) (x1 : Int32) (x2 : Int32) : St (Int32) :=
  bd (F_X11_isSensor x1) fun c1 => br (c1 = 0) (rt (0 : Int32)) (br (x2 < 0) (rt (0 : Int32)) (bd (gR [10] 0 (some o)) fun v4 => bd (aI 0 v4 x1) fun v5 => br (v5 ≤ x2) (rt (0 : Int32)) (rt (1 : Int32))))
set_option maxHeartbeats 4000000 in
set_option maxRecDepth 100000 in
theorem t_X11_isReading (l : Launch) (D : va_G) (cy : Nat → ClassId) (z : Nat) (o : Nat) (x1 : Int32) (x2 : Int32) : MT l D cy z yX11_isReading cX11_isReading 3 (some .boolean) 1 40 (F_X11_isReading o x1 x2) vI [.ref o, .int x1, .int x2] := by
  refine m_enter [(0, .ref o), (1, .int x1), (2, .int x2)] (by decide) (by first | rfl | simp [lv_args, m_cat, m_ci, m_cl, m_cf, m_cd, m_cr]) (by first | exact Nat.le_of_ble_eq_true rfl | simp [lg_sl, m_cat, m_ci, m_cl, m_cf, m_cd, m_cr]) ?_
  intro p e R s m args below meth c ws0 wsf rr cx hE ws H locs cells slots ls hl hH hF
  obtain ⟨hx, hb, hr, hml, hown, hk, hz, hlocks, hnm, hfr, hlo⟩ := id cx
  unfold F_X11_isReading at hF
  refine lv_iload_n hx hb dX11_isReading_0 rfl (lv_at hl 1 rfl) ?_
  refine m_cSI hx hb hml hown hk hH hE.le hz (As := [.int x1]) (rest := []) (t_X11_isSensor l D cy z x1) hF wd_843 wd_844 wd_38 wd_845 yn_X11_isSensor ⟨Nat.le_trans (by decide) hfr, Nat.le_trans (by decide) hlo⟩ hl.1 (by first | exact Nat.le_of_ble_eq_true rfl | simp [m_cat, m_ci, m_cl, m_cf, m_cd, m_cr]) rfl dX11_isReading_1 (fun c1 ws H locs cells slots hH hF => ?_)
  refine lv_if_eq (tgt := 25) hx hb dX11_isReading_4 (by decide) (fun hc1 => ?_) (fun hc1 => ?_)
  · have hF := bq_t hc1 hF
    refine lv_iconst (v := (0)) hx hb dX11_isReading_25 (by decide) ?_
    exact m_iret hx hb hr hlocks hH hE hF rfl dX11_isReading_26
  · have hF := bq_f hc1 hF
    refine lv_iload_n hx hb dX11_isReading_7 rfl (lv_at hl 2 rfl) ?_
    refine lv_if_lt (tgt := 25) hx hb dX11_isReading_8 (by decide) (fun hc2 => ?_) (fun hc2 => ?_)
    · have hF := bq_t hc2 hF
      refine lv_iconst (v := (0)) hx hb dX11_isReading_25 (by decide) ?_
      exact m_iret hx hb hr hlocks hH hE hF rfl dX11_isReading_26
    · have hF := bq_f hc2 hF
      refine lv_iload_n hx hb dX11_isReading_11 rfl (lv_at hl 2 rfl) ?_
      refine lv_aload_n hx hb dX11_isReading_12 rfl (lv_at hl 0 rfl) ?_
      refine m_gR hx hb hown hk hH hF fk_RX11_readings lk_RX11_9 dX11_isReading_13 (fun v4 hF => ?_)
      refine lv_iload_n hx hb dX11_isReading_16 rfl (lv_at hl 1 rfl) ?_
      refine m_aI0 hx hb hk hH hF dX11_isReading_17 (fun v5 hF => ?_)
      refine lv_icmp_ge (tgt := 25) hx hb dX11_isReading_18 (by decide) (fun hc5 => ?_) (fun hc5 => ?_)
      · have hF := bq_t hc5 hF
        refine lv_iconst (v := (0)) hx hb dX11_isReading_25 (by decide) ?_
        exact m_iret hx hb hr hlocks hH hE hF rfl dX11_isReading_26
      · have hF := bq_f hc5 hF
        refine lv_iconst (v := (1)) hx hb dX11_isReading_21 (by decide) ?_
        refine lv_goto (tgt := 26) hx hb dX11_isReading_22 (by decide) ?_
        exact m_iret hx hb hr hlocks hH hE hF rfl dX11_isReading_26

def b_X11_drop_24 (x0 : Nat) (x1 : Int32) (rec : Int32 → St (Int32)) (k : St (Int32)) (x3 : Int32) : St (Int32) :=
  bd (gR [10] 0 (some x0)) fun v6 => bd (aI 0 v6 x1) fun v7 => br (v7 ≤ x3) (k) (bd (rt (((24 : Int32) * x1) + x3)) fun v9 => bd (gR [10] 1 (some x0)) fun v10 => bd (gR [10] 1 (some x0)) fun v11 => bd (aI 0 v11 (v9 + (1 : Int32))) fun v12 => bd (sI 0 v10 v9 v12) fun _ => bd (gR [10] 2 (some x0)) fun v13 => bd (gR [10] 2 (some x0)) fun v14 => bd (aI 0 v14 (v9 + (1 : Int32))) fun v15 => bd (sI 0 v13 v9 v15) fun _ => bd (gR [10] 3 (some x0)) fun v16 => bd (gR [10] 3 (some x0)) fun v17 => bd (aI 0 v17 (v9 + (1 : Int32))) fun v18 => bd (sI 0 v16 v9 v18) fun _ => rec (x3 + (1 : Int32)))
def l_X11_drop_24 (x0 : Nat) (x1 : Int32) (k : St (Int32)) : Nat → Int32 → St (Int32)
  | 0 => fun _ => fl
  | n + 1 => fun x3 => b_X11_drop_24 x0 x1 (l_X11_drop_24 x0 x1 k n) k x3
def F_X11_drop (o : Nat) (x1 : Int32) (x2 : Int32) : St (Int32) :=
  bd (dr [10] (some o)) fun q2 => bd (F_X11_isReading q2.1 x1 x2) fun c1 => br (c1 = 0) (rt (-2 : Int32)) (bd (gR [10] 0 (some o)) fun v4 => bd (aI 0 v4 x1) fun v5 => bd (sI 0 v4 x1 (v5 - (1 : Int32))) fun _ => l_X11_drop_24 o x1 (bd (gR [10] 0 (some o)) fun v19 => bd (aI 0 v19 x1) fun v20 => rt v20) FU x2)
set_option maxHeartbeats 4000000 in
set_option maxRecDepth 100000 in
theorem wb_X11_drop_24 {l : Launch} {D : va_G} {cy : Nat → ClassId} {z : Nat} {p : Program} {e : Env} {R : Room} {s : State} {m : MethodId} {args : Array Value} {below : List Frame} {meth : Method} {c : Code} {ws0 wsf : WS} {rr : Int32} (cx : Cx D cy z RX11 cX11_drop 5 (some .int) 2 62 "drop" p R s m meth c) (hE : AC ws0 wsf R.cells R.slots) (x0 : Nat) (x1 : Int32) (rec : Int32 → St (Int32)) (k : St (Int32)) (hrec : ∀ (x3 : Int32), At_ l D cy z p e R s m args below meth c ws0 wsf vI rr 5 24 [(0, .ref x0), (1, .int x1), (3, .int x3)] [] (rec x3)) (hkk : At_ l D cy z p e R s m args below meth c ws0 wsf vI rr 5 96 [(0, .ref x0), (1, .int x1)] [] (k)) (x3 : Int32) : At_ l D cy z p e R s m args below meth c ws0 wsf vI rr 5 24 [(0, .ref x0), (1, .int x1), (3, .int x3)] [] (b_X11_drop_24 x0 x1 rec k x3) := by
  intro ws H locs cells slots ls hl hH hF
  obtain ⟨hx, hb, hr, hml, hown, hk, hz, hlocks, hnm, hfr, hlo⟩ := id cx
  unfold b_X11_drop_24 at hF
  refine lv_iload_n hx hb dX11_drop_24 rfl (lv_at hl 2 rfl) ?_
  refine lv_aload_n hx hb dX11_drop_25 rfl (lv_at hl 0 rfl) ?_
  refine m_gR hx hb hown hk hH hF fk_RX11_readings lk_RX11_9 dX11_drop_26 (fun v6 hF => ?_)
  refine lv_iload_n hx hb dX11_drop_29 rfl (lv_at hl 1 rfl) ?_
  refine m_aI0 hx hb hk hH hF dX11_drop_30 (fun v7 hF => ?_)
  refine lv_icmp_ge (tgt := 96) hx hb dX11_drop_31 (by decide) (fun hc7 => ?_) (fun hc7 => ?_)
  · have hF := bq_t hc7 hF
    exact hkk _ _ _ _ _ _ (lv_sub hl [0, 1] rfl) hH hF
  · have hF := bq_f hc7 hF
    refine lv_bipush (v := (24)) hx hb dX11_drop_34 (by decide) ?_
    refine lv_iload_n hx hb dX11_drop_36 rfl (lv_at hl 1 rfl) ?_
    refine lv_imul hx hb dX11_drop_37 ?_
    refine lv_iload_n hx hb dX11_drop_38 rfl (lv_at hl 2 rfl) ?_
    refine lv_iadd hx hb dX11_drop_39 ?_
    refine lv_topi (fun v9 hv9 => ?_)
    have hF := rt_t hv9 hF
    refine lv_istore (lv' := [(4, .int v9), (0, .ref x0), (1, .int x1), (3, .int x3)]) hx hb dX11_drop_40 hl (by decide) (by first | rfl | simp [m_cat, m_ci, m_cl, m_cf, m_cd, m_cr]) (fun ls hl => ?_)
    refine lv_aload_n hx hb dX11_drop_42 rfl (lv_at hl 1 rfl) ?_
    refine m_gR hx hb hown hk hH hF fk_RX11_count lk_RX11_13 dX11_drop_43 (fun v10 hF => ?_)
    refine lv_iload hx hb dX11_drop_46 (lv_at hl 0 rfl) ?_
    refine lv_aload_n hx hb dX11_drop_48 rfl (lv_at hl 1 rfl) ?_
    refine m_gR hx hb hown hk hH hF fk_RX11_count lk_RX11_13 dX11_drop_49 (fun v11 hF => ?_)
    refine lv_iload hx hb dX11_drop_52 (lv_at hl 0 rfl) ?_
    refine lv_iconst (v := (1)) hx hb dX11_drop_54 (by decide) ?_
    refine lv_iadd hx hb dX11_drop_55 ?_
    refine m_aI0 hx hb hk hH hF dX11_drop_56 (fun v12 hF => ?_)
    refine m_sI0 hx hb hk hH hF dX11_drop_57 (fun ws H locs hH hF => ?_)
    refine lv_aload_n hx hb dX11_drop_58 rfl (lv_at hl 1 rfl) ?_
    refine m_gR hx hb hown hk hH hF fk_RX11_reference lk_RX11_16 dX11_drop_59 (fun v13 hF => ?_)
    refine lv_iload hx hb dX11_drop_62 (lv_at hl 0 rfl) ?_
    refine lv_aload_n hx hb dX11_drop_64 rfl (lv_at hl 1 rfl) ?_
    refine m_gR hx hb hown hk hH hF fk_RX11_reference lk_RX11_16 dX11_drop_65 (fun v14 hF => ?_)
    refine lv_iload hx hb dX11_drop_68 (lv_at hl 0 rfl) ?_
    refine lv_iconst (v := (1)) hx hb dX11_drop_70 (by decide) ?_
    refine lv_iadd hx hb dX11_drop_71 ?_
    refine m_aI0 hx hb hk hH hF dX11_drop_72 (fun v15 hF => ?_)
    refine m_sI0 hx hb hk hH hF dX11_drop_73 (fun ws H locs hH hF => ?_)
    refine lv_aload_n hx hb dX11_drop_74 rfl (lv_at hl 1 rfl) ?_
    refine m_gR hx hb hown hk hH hF fk_RX11_weight lk_RX11_19 dX11_drop_75 (fun v16 hF => ?_)
    refine lv_iload hx hb dX11_drop_78 (lv_at hl 0 rfl) ?_
    refine lv_aload_n hx hb dX11_drop_80 rfl (lv_at hl 1 rfl) ?_
    refine m_gR hx hb hown hk hH hF fk_RX11_weight lk_RX11_19 dX11_drop_81 (fun v17 hF => ?_)
    refine lv_iload hx hb dX11_drop_84 (lv_at hl 0 rfl) ?_
    refine lv_iconst (v := (1)) hx hb dX11_drop_86 (by decide) ?_
    refine lv_iadd hx hb dX11_drop_87 ?_
    refine m_aI0 hx hb hk hH hF dX11_drop_88 (fun v18 hF => ?_)
    refine m_sI0 hx hb hk hH hF dX11_drop_89 (fun ws H locs hH hF => ?_)
    refine lv_iinc (v := (x3 + (1 : Int32))) (lv' := [(3, .int (x3 + (1 : Int32))), (4, .int v9), (0, .ref x0), (1, .int x1)]) hx hb dX11_drop_90 hl (k := 3) rfl (by first | rfl | (congr 1)) (by decide) (by first | rfl | simp [m_cat, m_ci, m_cl, m_cf, m_cd, m_cr]) (fun ls hl => ?_)
    refine lv_goto (tgt := 24) hx hb dX11_drop_93 (by decide) ?_
    exact hrec _ _ _ _ _ _ _ (lv_sub hl [2, 3, 0] rfl) hH hF
theorem w_X11_drop_24 {l : Launch} {D : va_G} {cy : Nat → ClassId} {z : Nat} {p : Program} {e : Env} {R : Room} {s : State} {m : MethodId} {args : Array Value} {below : List Frame} {meth : Method} {c : Code} {ws0 wsf : WS} {rr : Int32} (cx : Cx D cy z RX11 cX11_drop 5 (some .int) 2 62 "drop" p R s m meth c) (hE : AC ws0 wsf R.cells R.slots) (x0 : Nat) (x1 : Int32) (k : St (Int32)) (hkk : At_ l D cy z p e R s m args below meth c ws0 wsf vI rr 5 96 [(0, .ref x0), (1, .int x1)] [] (k)) : ∀ (n : Nat) (x3 : Int32), At_ l D cy z p e R s m args below meth c ws0 wsf vI rr 5 24 [(0, .ref x0), (1, .int x1), (3, .int x3)] [] (l_X11_drop_24 x0 x1 k n x3) := by
  intro n
  induction n with
  | zero =>
    intro x3 ws H locs cells slots ls hl hH hF
    exact fl_t hF
  | succ n ih =>
    intro x3
    exact wb_X11_drop_24 cx hE x0 x1 (l_X11_drop_24 x0 x1 k n) k ih hkk x3
set_option maxHeartbeats 4000000 in
set_option maxRecDepth 100000 in
theorem t_X11_drop (l : Launch) (D : va_G) (cy : Nat → ClassId) (z : Nat) (o : Nat) (x1 : Int32) (x2 : Int32) : MT l D cy z yX11_drop cX11_drop 5 (some .int) 2 62 (F_X11_drop o x1 x2) vI [.ref o, .int x1, .int x2] := by
  refine m_enter [(0, .ref o), (1, .int x1), (2, .int x2)] (by decide) (by first | rfl | simp [lv_args, m_cat, m_ci, m_cl, m_cf, m_cd, m_cr]) (by first | exact Nat.le_of_ble_eq_true rfl | simp [lg_sl, m_cat, m_ci, m_cl, m_cf, m_cd, m_cr]) ?_
  intro p e R s m args below meth c ws0 wsf rr cx hE ws H locs cells slots ls hl hH hF
  obtain ⟨hx, hb, hr, hml, hown, hk, hz, hlocks, hnm, hfr, hlo⟩ := id cx
  unfold F_X11_drop at hF
  refine lv_aload_n hx hb dX11_drop_0 rfl (lv_at hl 0 rfl) ?_
  refine lv_iload_n hx hb dX11_drop_1 rfl (lv_at hl 1 rfl) ?_
  refine lv_iload_n hx hb dX11_drop_2 rfl (lv_at hl 2 rfl) ?_
  refine m_cVI hx hb hml hown hk hH hE.le hz (F := fun q2 => F_X11_isReading q2.1 x1 x2) (C := RX11) (T := TX11) (N := 22) rfl (As := [.int x1, .int x2]) (rest := []) (fun o => t_X11_isReading l D cy z o x1 x2) hF wd_853 wd_855 wd_38 wd_856 wd_16 yn_X11_isReading ⟨Nat.le_trans (by decide) hfr, Nat.le_trans (by decide) hlo⟩ hl.1 (by first | exact Nat.le_of_ble_eq_true rfl | simp [m_cat, m_ci, m_cl, m_cf, m_cd, m_cr]) rfl dX11_drop_3 (fun c1 ws H locs cells slots hH hF => ?_)
  refine lv_if_ne (tgt := 12) hx hb dX11_drop_6 (by decide) (fun hc2 => ?_) (fun hc2 => ?_)
  · have hF := bq_f hc2 hF
    refine lv_aload_n hx hb dX11_drop_12 rfl (lv_at hl 0 rfl) ?_
    refine m_gR hx hb hown hk hH hF fk_RX11_readings lk_RX11_9 dX11_drop_13 (fun v4 hF => ?_)
    refine lv_iload_n hx hb dX11_drop_16 rfl (lv_at hl 1 rfl) ?_
    refine lv_dup2_11 hx hb dX11_drop_17 rfl (m_cat _) ?_
    refine m_aI0 hx hb hk hH hF dX11_drop_18 (fun v5 hF => ?_)
    refine lv_iconst (v := (1)) hx hb dX11_drop_19 (by decide) ?_
    refine lv_isub hx hb dX11_drop_20 ?_
    refine m_sI0 hx hb hk hH hF dX11_drop_21 (fun ws H locs hH hF => ?_)
    refine lv_iload_n hx hb dX11_drop_22 rfl (lv_at hl 2 rfl) ?_
    refine lv_istore_n (lv' := [(3, .int x2), (0, .ref o), (1, .int x1), (2, .int x2)]) hx hb dX11_drop_23 rfl hl (by decide) (by first | rfl | simp [m_cat, m_ci, m_cl, m_cf, m_cd, m_cr]) (fun ls hl => ?_)
    refine w_X11_drop_24 cx hE o x1 _ (fun ws H locs cells slots ls hl hH hF => ?_) _ _ _ _ _ _ _ _ (lv_sub hl [1, 2, 0] rfl) hH hF
    refine lv_aload_n hx hb dX11_drop_96 rfl (lv_at hl 0 rfl) ?_
    refine m_gR hx hb hown hk hH hF fk_RX11_readings lk_RX11_9 dX11_drop_97 (fun v19 hF => ?_)
    refine lv_iload_n hx hb dX11_drop_100 rfl (lv_at hl 1 rfl) ?_
    refine m_aI0 hx hb hk hH hF dX11_drop_101 (fun v20 hF => ?_)
    exact m_iret hx hb hr hlocks hH hE hF rfl dX11_drop_102
  · have hF := bq_t hc2 hF
    refine lv_bipush (v := (-2)) hx hb dX11_drop_9 (by decide) ?_
    exact m_iret hx hb hr hlocks hH hE hF rfl dX11_drop_11

def F_X11_newCurve (o : Nat) (x1 : Int32) (x2 : Int32) : St (Int32) :=
  bd (gR [10] 5 (some o)) fun v1 => bd (gI [10] 4 (some o)) fun v2 => bd (sI 0 v1 v2 x1) fun _ => bd (gR [10] 6 (some o)) fun v3 => bd (gI [10] 4 (some o)) fun v4 => bd (sI 0 v3 v4 x2) fun _ => bd (gI [10] 4 (some o)) fun v5 => bd (pV [10] 4 (some o) (.int (v5 + (1 : Int32)))) fun _ => bd (gI [10] 4 (some o)) fun v6 => rt (v6 - (1 : Int32))
set_option maxHeartbeats 4000000 in
set_option maxRecDepth 100000 in
theorem t_X11_newCurve (l : Launch) (D : va_G) (cy : Nat → ClassId) (z : Nat) (o : Nat) (x1 : Int32) (x2 : Int32) : MT l D cy z yX11_newCurve cX11_newCurve 3 (some .int) 0 0 (F_X11_newCurve o x1 x2) vI [.ref o, .int x1, .int x2] := by
  refine m_enter [(0, .ref o), (1, .int x1), (2, .int x2)] (by decide) (by first | rfl | simp [lv_args, m_cat, m_ci, m_cl, m_cf, m_cd, m_cr]) (by first | exact Nat.le_of_ble_eq_true rfl | simp [lg_sl, m_cat, m_ci, m_cl, m_cf, m_cd, m_cr]) ?_
  intro p e R s m args below meth c ws0 wsf rr cx hE ws H locs cells slots ls hl hH hF
  obtain ⟨hx, hb, hr, hml, hown, hk, hz, hlocks, hnm, hfr, hlo⟩ := id cx
  unfold F_X11_newCurve at hF
  refine lv_aload_n hx hb dX11_newCurve_0 rfl (lv_at hl 0 rfl) ?_
  refine m_gR hx hb hown hk hH hF fk_RX11_sort lk_RX11_22 dX11_newCurve_1 (fun v1 hF => ?_)
  refine lv_aload_n hx hb dX11_newCurve_4 rfl (lv_at hl 0 rfl) ?_
  refine m_gI hx hb hown hk hH hF fk_RX11_curves lk_RX11_85 dX11_newCurve_5 (fun v2 hF => ?_)
  refine lv_iload_n hx hb dX11_newCurve_8 rfl (lv_at hl 1 rfl) ?_
  refine m_sI0 hx hb hk hH hF dX11_newCurve_9 (fun ws H locs hH hF => ?_)
  refine lv_aload_n hx hb dX11_newCurve_10 rfl (lv_at hl 0 rfl) ?_
  refine m_gR hx hb hown hk hH hF fk_RX11_work lk_RX11_25 dX11_newCurve_11 (fun v3 hF => ?_)
  refine lv_aload_n hx hb dX11_newCurve_14 rfl (lv_at hl 0 rfl) ?_
  refine m_gI hx hb hown hk hH hF fk_RX11_curves lk_RX11_85 dX11_newCurve_15 (fun v4 hF => ?_)
  refine lv_iload_n hx hb dX11_newCurve_18 rfl (lv_at hl 2 rfl) ?_
  refine m_sI0 hx hb hk hH hF dX11_newCurve_19 (fun ws H locs hH hF => ?_)
  refine lv_aload_n hx hb dX11_newCurve_20 rfl (lv_at hl 0 rfl) ?_
  refine lv_dup hx hb dX11_newCurve_21 rfl ?_
  refine m_gI hx hb hown hk hH hF fk_RX11_curves lk_RX11_85 dX11_newCurve_22 (fun v5 hF => ?_)
  refine lv_iconst (v := (1)) hx hb dX11_newCurve_25 (by decide) ?_
  refine lv_iadd hx hb dX11_newCurve_26 ?_
  refine m_pV hx hb hown hk hH hF fk_RX11_curves lk_RX11_85 pd_9 rfl rfl dX11_newCurve_27 (fun ws H locs hH hF => ?_)
  refine lv_aload_n hx hb dX11_newCurve_30 rfl (lv_at hl 0 rfl) ?_
  refine m_gI hx hb hown hk hH hF fk_RX11_curves lk_RX11_85 dX11_newCurve_31 (fun v6 hF => ?_)
  refine lv_iconst (v := (1)) hx hb dX11_newCurve_34 (by decide) ?_
  refine lv_isub hx hb dX11_newCurve_35 ?_
  exact m_iret hx hb hr hlocks hH hE hF rfl dX11_newCurve_36
