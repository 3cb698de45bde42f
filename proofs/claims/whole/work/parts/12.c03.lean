def F_X8_has (o : Nat) (x1 : Int32) : St (Int32) :=
  br (x1 < 0) (rt (0 : Int32)) (bd (gI [7] 3 (some o)) fun v2 => br (v2 ≤ x1) (rt (0 : Int32)) (rt (1 : Int32)))
set_option maxHeartbeats 4000000 in
set_option maxRecDepth 100000 in
theorem t_X8_has (l : Launch) (D : va_G) (cy : Nat → ClassId) (z : Nat) (o : Nat) (x1 : Int32) : MT l D cy z yX8_has cX8_has 2 (some .boolean) 0 0 (F_X8_has o x1) vI [.ref o, .int x1] := by
  refine m_enter [(0, .ref o), (1, .int x1)] (by decide) (by first | rfl | simp [lv_args, m_cat, m_ci, m_cl, m_cf, m_cd, m_cr]) (by first | exact Nat.le_of_ble_eq_true rfl | simp [lg_sl, m_cat, m_ci, m_cl, m_cf, m_cd, m_cr]) ?_
  intro p e R s m args below meth c ws0 wsf rr cx hE ws H locs cells slots ls hl hH hF
  obtain ⟨hx, hb, hr, hml, hown, hk, hz, hlocks, hnm, hfr, hlo⟩ := id cx
  unfold F_X8_has at hF
  refine lv_iload_n hx hb dX8_has_0 rfl (lv_at hl 1 rfl) ?_
  refine lv_if_lt (tgt := 16) hx hb dX8_has_1 (by decide) (fun hc0 => ?_) (fun hc0 => ?_)
  · have hF := bq_t hc0 hF
    refine lv_iconst (v := (0)) hx hb dX8_has_16 (by decide) ?_
    exact m_iret hx hb hr hlocks hH hE hF rfl dX8_has_17
  · have hF := bq_f hc0 hF
    refine lv_iload_n hx hb dX8_has_4 rfl (lv_at hl 1 rfl) ?_
    refine lv_aload_n hx hb dX8_has_5 rfl (lv_at hl 0 rfl) ?_
    refine m_gI hx hb hown hk hH hF fk_RX8_size lk_RX8_21 dX8_has_6 (fun v2 hF => ?_)
    refine lv_icmp_ge (tgt := 16) hx hb dX8_has_9 (by decide) (fun hc2 => ?_) (fun hc2 => ?_)
    · have hF := bq_t hc2 hF
      refine lv_iconst (v := (0)) hx hb dX8_has_16 (by decide) ?_
      exact m_iret hx hb hr hlocks hH hE hF rfl dX8_has_17
    · have hF := bq_f hc2 hF
      refine lv_iconst (v := (1)) hx hb dX8_has_12 (by decide) ?_
      refine lv_goto (tgt := 17) hx hb dX8_has_13 (by decide) ?_
      exact m_iret hx hb hr hlocks hH hE hF rfl dX8_has_17

def F_X8_add (o : Nat) (x1 : Int32) (x2 : Int32) (x3 : Int32) : St (Unit) :=
  bd (gR [7] 0 (some o)) fun v1 => bd (gI [7] 3 (some o)) fun v2 => bd (sI 0 v1 v2 x1) fun _ => bd (gR [7] 1 (some o)) fun v3 => bd (gI [7] 3 (some o)) fun v4 => bd (sI 0 v3 v4 x2) fun _ => bd (gR [7] 2 (some o)) fun v5 => bd (gI [7] 3 (some o)) fun v6 => bd (sI 0 v5 v6 x3) fun _ => bd (gI [7] 3 (some o)) fun v7 => bd (pV [7] 3 (some o) (.int (v7 + (1 : Int32)))) fun _ => rt ()
set_option maxHeartbeats 4000000 in
set_option maxRecDepth 100000 in
theorem t_X8_add (l : Launch) (D : va_G) (cy : Nat → ClassId) (z : Nat) (o : Nat) (x1 : Int32) (x2 : Int32) (x3 : Int32) : MT l D cy z yX8_add cX8_add 4 none 0 0 (F_X8_add o x1 x2 x3) vU [.ref o, .int x1, .int x2, .int x3] := by
  refine m_enter [(0, .ref o), (1, .int x1), (2, .int x2), (3, .int x3)] (by decide) (by first | rfl | simp [lv_args, m_cat, m_ci, m_cl, m_cf, m_cd, m_cr]) (by first | exact Nat.le_of_ble_eq_true rfl | simp [lg_sl, m_cat, m_ci, m_cl, m_cf, m_cd, m_cr]) ?_
  intro p e R s m args below meth c ws0 wsf rr cx hE ws H locs cells slots ls hl hH hF
  obtain ⟨hx, hb, hr, hml, hown, hk, hz, hlocks, hnm, hfr, hlo⟩ := id cx
  unfold F_X8_add at hF
  refine lv_aload_n hx hb dX8_add_0 rfl (lv_at hl 0 rfl) ?_
  refine m_gR hx hb hown hk hH hF fk_RX8_counts lk_RX8_9 dX8_add_1 (fun v1 hF => ?_)
  refine lv_aload_n hx hb dX8_add_4 rfl (lv_at hl 0 rfl) ?_
  refine m_gI hx hb hown hk hH hF fk_RX8_size lk_RX8_21 dX8_add_5 (fun v2 hF => ?_)
  refine lv_iload_n hx hb dX8_add_8 rfl (lv_at hl 1 rfl) ?_
  refine m_sI0 hx hb hk hH hF dX8_add_9 (fun ws H locs hH hF => ?_)
  refine lv_aload_n hx hb dX8_add_10 rfl (lv_at hl 0 rfl) ?_
  refine m_gR hx hb hown hk hH hF fk_RX8_references lk_RX8_15 dX8_add_11 (fun v3 hF => ?_)
  refine lv_aload_n hx hb dX8_add_14 rfl (lv_at hl 0 rfl) ?_
  refine m_gI hx hb hown hk hH hF fk_RX8_size lk_RX8_21 dX8_add_15 (fun v4 hF => ?_)
  refine lv_iload_n hx hb dX8_add_18 rfl (lv_at hl 2 rfl) ?_
  refine m_sI0 hx hb hk hH hF dX8_add_19 (fun ws H locs hH hF => ?_)
  refine lv_aload_n hx hb dX8_add_20 rfl (lv_at hl 0 rfl) ?_
  refine m_gR hx hb hown hk hH hF fk_RX8_weights lk_RX8_18 dX8_add_21 (fun v5 hF => ?_)
  refine lv_aload_n hx hb dX8_add_24 rfl (lv_at hl 0 rfl) ?_
  refine m_gI hx hb hown hk hH hF fk_RX8_size lk_RX8_21 dX8_add_25 (fun v6 hF => ?_)
  refine lv_iload_n hx hb dX8_add_28 rfl (lv_at hl 3 rfl) ?_
  refine m_sI0 hx hb hk hH hF dX8_add_29 (fun ws H locs hH hF => ?_)
  refine lv_aload_n hx hb dX8_add_30 rfl (lv_at hl 0 rfl) ?_
  refine lv_dup hx hb dX8_add_31 rfl ?_
  refine m_gI hx hb hown hk hH hF fk_RX8_size lk_RX8_21 dX8_add_32 (fun v7 hF => ?_)
  refine lv_iconst (v := (1)) hx hb dX8_add_35 (by decide) ?_
  refine lv_iadd hx hb dX8_add_36 ?_
  refine m_pV hx hb hown hk hH hF fk_RX8_size lk_RX8_21 pd_9 rfl rfl dX8_add_37 (fun ws H locs hH hF => ?_)
  exact m_vret hx hb hr hlocks hH hE hF dX8_add_40

def b_X8_remove_2 (x0 : Nat) (rec : Int32 → St (Unit)) (k : St (Unit)) (x2 : Int32) : St (Unit) :=
  bd (gI [7] 3 (some x0)) fun v1 => br ((v1 - (1 : Int32)) ≤ x2) (k) (bd (gR [7] 0 (some x0)) fun v3 => bd (gR [7] 0 (some x0)) fun v4 => bd (aI 0 v4 (x2 + (1 : Int32))) fun v5 => bd (sI 0 v3 x2 v5) fun _ => bd (gR [7] 1 (some x0)) fun v6 => bd (gR [7] 1 (some x0)) fun v7 => bd (aI 0 v7 (x2 + (1 : Int32))) fun v8 => bd (sI 0 v6 x2 v8) fun _ => bd (gR [7] 2 (some x0)) fun v9 => bd (gR [7] 2 (some x0)) fun v10 => bd (aI 0 v10 (x2 + (1 : Int32))) fun v11 => bd (sI 0 v9 x2 v11) fun _ => rec (x2 + (1 : Int32)))
def l_X8_remove_2 (x0 : Nat) (k : St (Unit)) : Nat → Int32 → St (Unit)
  | 0 => fun _ => fl
  | n + 1 => fun x2 => b_X8_remove_2 x0 (l_X8_remove_2 x0 k n) k x2
def F_X8_remove (o : Nat) (x1 : Int32) : St (Unit) :=
  l_X8_remove_2 o (bd (gI [7] 3 (some o)) fun v12 => bd (pV [7] 3 (some o) (.int (v12 - (1 : Int32)))) fun _ => rt ()) FU x1
set_option maxHeartbeats 4000000 in
set_option maxRecDepth 100000 in
theorem wb_X8_remove_2 {l : Launch} {D : va_G} {cy : Nat → ClassId} {z : Nat} {p : Program} {e : Env} {R : Room} {s : State} {m : MethodId} {args : Array Value} {below : List Frame} {meth : Method} {c : Code} {ws0 wsf : WS} {rr : Unit} (cx : Cx D cy z RX8 cX8_remove 3 none 0 0 "remove" p R s m meth c) (hE : AC ws0 wsf R.cells R.slots) (x0 : Nat) (rec : Int32 → St (Unit)) (k : St (Unit)) (hrec : ∀ (x2 : Int32), At_ l D cy z p e R s m args below meth c ws0 wsf vU rr 3 2 [(0, .ref x0), (2, .int x2)] [] (rec x2)) (hkk : At_ l D cy z p e R s m args below meth c ws0 wsf vU rr 3 60 [(0, .ref x0)] [] (k)) (x2 : Int32) : At_ l D cy z p e R s m args below meth c ws0 wsf vU rr 3 2 [(0, .ref x0), (2, .int x2)] [] (b_X8_remove_2 x0 rec k x2) := by
  intro ws H locs cells slots ls hl hH hF
  obtain ⟨hx, hb, hr, hml, hown, hk, hz, hlocks, hnm, hfr, hlo⟩ := id cx
  unfold b_X8_remove_2 at hF
  refine lv_iload_n hx hb dX8_remove_2 rfl (lv_at hl 1 rfl) ?_
  refine lv_aload_n hx hb dX8_remove_3 rfl (lv_at hl 0 rfl) ?_
  refine m_gI hx hb hown hk hH hF fk_RX8_size lk_RX8_21 dX8_remove_4 (fun v1 hF => ?_)
  refine lv_iconst (v := (1)) hx hb dX8_remove_7 (by decide) ?_
  refine lv_isub hx hb dX8_remove_8 ?_
  refine lv_icmp_ge (tgt := 60) hx hb dX8_remove_9 (by decide) (fun hc1 => ?_) (fun hc1 => ?_)
  · have hF := bq_t hc1 hF
    exact hkk _ _ _ _ _ _ (lv_sub hl [0] rfl) hH hF
  · have hF := bq_f hc1 hF
    refine lv_aload_n hx hb dX8_remove_12 rfl (lv_at hl 0 rfl) ?_
    refine m_gR hx hb hown hk hH hF fk_RX8_counts lk_RX8_9 dX8_remove_13 (fun v3 hF => ?_)
    refine lv_iload_n hx hb dX8_remove_16 rfl (lv_at hl 1 rfl) ?_
    refine lv_aload_n hx hb dX8_remove_17 rfl (lv_at hl 0 rfl) ?_
    refine m_gR hx hb hown hk hH hF fk_RX8_counts lk_RX8_9 dX8_remove_18 (fun v4 hF => ?_)
    refine lv_iload_n hx hb dX8_remove_21 rfl (lv_at hl 1 rfl) ?_
    refine lv_iconst (v := (1)) hx hb dX8_remove_22 (by decide) ?_
    refine lv_iadd hx hb dX8_remove_23 ?_
    refine m_aI0 hx hb hk hH hF dX8_remove_24 (fun v5 hF => ?_)
    refine m_sI0 hx hb hk hH hF dX8_remove_25 (fun ws H locs hH hF => ?_)
    refine lv_aload_n hx hb dX8_remove_26 rfl (lv_at hl 0 rfl) ?_
    refine m_gR hx hb hown hk hH hF fk_RX8_references lk_RX8_15 dX8_remove_27 (fun v6 hF => ?_)
    refine lv_iload_n hx hb dX8_remove_30 rfl (lv_at hl 1 rfl) ?_
    refine lv_aload_n hx hb dX8_remove_31 rfl (lv_at hl 0 rfl) ?_
    refine m_gR hx hb hown hk hH hF fk_RX8_references lk_RX8_15 dX8_remove_32 (fun v7 hF => ?_)
    refine lv_iload_n hx hb dX8_remove_35 rfl (lv_at hl 1 rfl) ?_
    refine lv_iconst (v := (1)) hx hb dX8_remove_36 (by decide) ?_
    refine lv_iadd hx hb dX8_remove_37 ?_
    refine m_aI0 hx hb hk hH hF dX8_remove_38 (fun v8 hF => ?_)
    refine m_sI0 hx hb hk hH hF dX8_remove_39 (fun ws H locs hH hF => ?_)
    refine lv_aload_n hx hb dX8_remove_40 rfl (lv_at hl 0 rfl) ?_
    refine m_gR hx hb hown hk hH hF fk_RX8_weights lk_RX8_18 dX8_remove_41 (fun v9 hF => ?_)
    refine lv_iload_n hx hb dX8_remove_44 rfl (lv_at hl 1 rfl) ?_
    refine lv_aload_n hx hb dX8_remove_45 rfl (lv_at hl 0 rfl) ?_
    refine m_gR hx hb hown hk hH hF fk_RX8_weights lk_RX8_18 dX8_remove_46 (fun v10 hF => ?_)
    refine lv_iload_n hx hb dX8_remove_49 rfl (lv_at hl 1 rfl) ?_
    refine lv_iconst (v := (1)) hx hb dX8_remove_50 (by decide) ?_
    refine lv_iadd hx hb dX8_remove_51 ?_
    refine m_aI0 hx hb hk hH hF dX8_remove_52 (fun v11 hF => ?_)
    refine m_sI0 hx hb hk hH hF dX8_remove_53 (fun ws H locs hH hF => ?_)
    refine lv_iinc (v := (x2 + (1 : Int32))) (lv' := [(2, .int (x2 + (1 : Int32))), (0, .ref x0)]) hx hb dX8_remove_54 hl (k := 1) rfl (by first | rfl | (congr 1)) (by decide) (by first | rfl | simp [m_cat, m_ci, m_cl, m_cf, m_cd, m_cr]) (fun ls hl => ?_)
    refine lv_goto (tgt := 2) hx hb dX8_remove_57 (by decide) ?_
    exact hrec _ _ _ _ _ _ _ (lv_sub hl [1, 0] rfl) hH hF
theorem w_X8_remove_2 {l : Launch} {D : va_G} {cy : Nat → ClassId} {z : Nat} {p : Program} {e : Env} {R : Room} {s : State} {m : MethodId} {args : Array Value} {below : List Frame} {meth : Method} {c : Code} {ws0 wsf : WS} {rr : Unit} (cx : Cx D cy z RX8 cX8_remove 3 none 0 0 "remove" p R s m meth c) (hE : AC ws0 wsf R.cells R.slots) (x0 : Nat) (k : St (Unit)) (hkk : At_ l D cy z p e R s m args below meth c ws0 wsf vU rr 3 60 [(0, .ref x0)] [] (k)) : ∀ (n : Nat) (x2 : Int32), At_ l D cy z p e R s m args below meth c ws0 wsf vU rr 3 2 [(0, .ref x0), (2, .int x2)] [] (l_X8_remove_2 x0 k n x2) := by
  intro n
  induction n with
  | zero =>
    intro x2 ws H locs cells slots ls hl hH hF
    exact fl_t hF
  | succ n ih =>
    intro x2
    exact wb_X8_remove_2 cx hE x0 (l_X8_remove_2 x0 k n) k ih hkk x2
set_option maxHeartbeats 4000000 in
set_option maxRecDepth 100000 in
theorem t_X8_remove (l : Launch) (D : va_G) (cy : Nat → ClassId) (z : Nat) (o : Nat) (x1 : Int32) : MT l D cy z yX8_remove cX8_remove 3 none 0 0 (F_X8_remove o x1) vU [.ref o, .int x1] := by
  refine m_enter [(0, .ref o), (1, .int x1)] (by decide) (by first | rfl | simp [lv_args, m_cat, m_ci, m_cl, m_cf, m_cd, m_cr]) (by first | exact Nat.le_of_ble_eq_true rfl | simp [lg_sl, m_cat, m_ci, m_cl, m_cf, m_cd, m_cr]) ?_
  intro p e R s m args below meth c ws0 wsf rr cx hE ws H locs cells slots ls hl hH hF
  obtain ⟨hx, hb, hr, hml, hown, hk, hz, hlocks, hnm, hfr, hlo⟩ := id cx
  unfold F_X8_remove at hF
  refine lv_iload_n hx hb dX8_remove_0 rfl (lv_at hl 1 rfl) ?_
  refine lv_istore_n (lv' := [(2, .int x1), (0, .ref o), (1, .int x1)]) hx hb dX8_remove_1 rfl hl (by decide) (by first | rfl | simp [m_cat, m_ci, m_cl, m_cf, m_cd, m_cr]) (fun ls hl => ?_)
  refine w_X8_remove_2 cx hE o _ (fun ws H locs cells slots ls hl hH hF => ?_) _ _ _ _ _ _ _ _ (lv_sub hl [1, 0] rfl) hH hF
  refine lv_aload_n hx hb dX8_remove_60 rfl (lv_at hl 0 rfl) ?_
  refine lv_dup hx hb dX8_remove_61 rfl ?_
  refine m_gI hx hb hown hk hH hF fk_RX8_size lk_RX8_21 dX8_remove_62 (fun v12 hF => ?_)
  refine lv_iconst (v := (1)) hx hb dX8_remove_65 (by decide) ?_
  refine lv_isub hx hb dX8_remove_66 ?_
  refine m_pV hx hb hown hk hH hF fk_RX8_size lk_RX8_21 pd_9 rfl rfl dX8_remove_67 (fun ws H locs hH hF => ?_)
  exact m_vret hx hb hr hlocks hH hE hF dX8_remove_70

def b_X8_hasTwoCounts_2 (x0 : Nat) (rec : Int32 → St (Int32)) (k : St (Int32)) (x1 : Int32) : St (Int32) :=
  bd (gI [7] 3 (some x0)) fun v1 => br (v1 ≤ x1) (k) (bd (gR [7] 0 (some x0)) fun v3 => bd (aI 0 v3 x1) fun v4 => bd (gR [7] 0 (some x0)) fun v5 => bd (aI 0 v5 (0 : Int32)) fun v6 => br (v4 = v6) (rec (x1 + (1 : Int32))) (rt (1 : Int32)))
def l_X8_hasTwoCounts_2 (x0 : Nat) (k : St (Int32)) : Nat → Int32 → St (Int32)
  | 0 => fun _ => fl
  | n + 1 => fun x1 => b_X8_hasTwoCounts_2 x0 (l_X8_hasTwoCounts_2 x0 k n) k x1
def F_X8_hasTwoCounts (o : Nat) : St (Int32) :=
  l_X8_hasTwoCounts_2 o (rt (0 : Int32)) FU (1 : Int32)
set_option maxHeartbeats 4000000 in
set_option maxRecDepth 100000 in
theorem wb_X8_hasTwoCounts_2 {l : Launch} {D : va_G} {cy : Nat → ClassId} {z : Nat} {p : Program} {e : Env} {R : Room} {s : State} {m : MethodId} {args : Array Value} {below : List Frame} {meth : Method} {c : Code} {ws0 wsf : WS} {rr : Int32} (cx : Cx D cy z RX8 cX8_hasTwoCounts 2 (some .boolean) 0 0 "hasTwoCounts" p R s m meth c) (hE : AC ws0 wsf R.cells R.slots) (x0 : Nat) (rec : Int32 → St (Int32)) (k : St (Int32)) (hrec : ∀ (x1 : Int32), At_ l D cy z p e R s m args below meth c ws0 wsf vI rr 2 2 [(0, .ref x0), (1, .int x1)] [] (rec x1)) (hkk : At_ l D cy z p e R s m args below meth c ws0 wsf vI rr 2 33 [] [] (k)) (x1 : Int32) : At_ l D cy z p e R s m args below meth c ws0 wsf vI rr 2 2 [(0, .ref x0), (1, .int x1)] [] (b_X8_hasTwoCounts_2 x0 rec k x1) := by
  intro ws H locs cells slots ls hl hH hF
  obtain ⟨hx, hb, hr, hml, hown, hk, hz, hlocks, hnm, hfr, hlo⟩ := id cx
  unfold b_X8_hasTwoCounts_2 at hF
  refine lv_iload_n hx hb dX8_hasTwoCounts_2 rfl (lv_at hl 1 rfl) ?_
  refine lv_aload_n hx hb dX8_hasTwoCounts_3 rfl (lv_at hl 0 rfl) ?_
  refine m_gI hx hb hown hk hH hF fk_RX8_size lk_RX8_21 dX8_hasTwoCounts_4 (fun v1 hF => ?_)
  refine lv_icmp_ge (tgt := 33) hx hb dX8_hasTwoCounts_7 (by decide) (fun hc1 => ?_) (fun hc1 => ?_)
  · have hF := bq_t hc1 hF
    exact hkk _ _ _ _ _ _ (lv_sub hl [] rfl) hH hF
  · have hF := bq_f hc1 hF
    refine lv_aload_n hx hb dX8_hasTwoCounts_10 rfl (lv_at hl 0 rfl) ?_
    refine m_gR hx hb hown hk hH hF fk_RX8_counts lk_RX8_9 dX8_hasTwoCounts_11 (fun v3 hF => ?_)
    refine lv_iload_n hx hb dX8_hasTwoCounts_14 rfl (lv_at hl 1 rfl) ?_
    refine m_aI0 hx hb hk hH hF dX8_hasTwoCounts_15 (fun v4 hF => ?_)
    refine lv_aload_n hx hb dX8_hasTwoCounts_16 rfl (lv_at hl 0 rfl) ?_
    refine m_gR hx hb hown hk hH hF fk_RX8_counts lk_RX8_9 dX8_hasTwoCounts_17 (fun v5 hF => ?_)
    refine lv_iconst (v := (0)) hx hb dX8_hasTwoCounts_20 (by decide) ?_
    refine m_aI0 hx hb hk hH hF dX8_hasTwoCounts_21 (fun v6 hF => ?_)
    refine lv_icmp_eq (tgt := 27) hx hb dX8_hasTwoCounts_22 (by decide) (fun hc6 => ?_) (fun hc6 => ?_)
    · have hF := bq_t hc6 hF
      refine lv_iinc (v := (x1 + (1 : Int32))) (lv' := [(1, .int (x1 + (1 : Int32))), (0, .ref x0)]) hx hb dX8_hasTwoCounts_27 hl (k := 1) rfl (by first | rfl | (congr 1)) (by decide) (by first | rfl | simp [m_cat, m_ci, m_cl, m_cf, m_cd, m_cr]) (fun ls hl => ?_)
      refine lv_goto (tgt := 2) hx hb dX8_hasTwoCounts_30 (by decide) ?_
      exact hrec _ _ _ _ _ _ _ (lv_sub hl [1, 0] rfl) hH hF
    · have hF := bq_f hc6 hF
      refine lv_iconst (v := (1)) hx hb dX8_hasTwoCounts_25 (by decide) ?_
      exact m_iret hx hb hr hlocks hH hE hF rfl dX8_hasTwoCounts_26
theorem w_X8_hasTwoCounts_2 {l : Launch} {D : va_G} {cy : Nat → ClassId} {z : Nat} {p : Program} {e : Env} {R : Room} {s : State} {m : MethodId} {args : Array Value} {below : List Frame} {meth : Method} {c : Code} {ws0 wsf : WS} {rr : Int32} (cx : Cx D cy z RX8 cX8_hasTwoCounts 2 (some .boolean) 0 0 "hasTwoCounts" p R s m meth c) (hE : AC ws0 wsf R.cells R.slots) (x0 : Nat) (k : St (Int32)) (hkk : At_ l D cy z p e R s m args below meth c ws0 wsf vI rr 2 33 [] [] (k)) : ∀ (n : Nat) (x1 : Int32), At_ l D cy z p e R s m args below meth c ws0 wsf vI rr 2 2 [(0, .ref x0), (1, .int x1)] [] (l_X8_hasTwoCounts_2 x0 k n x1) := by
  intro n
  induction n with
  | zero =>
    intro x1 ws H locs cells slots ls hl hH hF
    exact fl_t hF
  | succ n ih =>
    intro x1
    exact wb_X8_hasTwoCounts_2 cx hE x0 (l_X8_hasTwoCounts_2 x0 k n) k ih hkk x1
set_option maxHeartbeats 4000000 in
set_option maxRecDepth 100000 in
theorem t_X8_hasTwoCounts (l : Launch) (D : va_G) (cy : Nat → ClassId) (z : Nat) (o : Nat) : MT l D cy z yX8_hasTwoCounts cX8_hasTwoCounts 2 (some .boolean) 0 0 (F_X8_hasTwoCounts o) vI [.ref o] := by
  refine m_enter [(0, .ref o)] (by decide) (by first | rfl | simp [lv_args, m_cat, m_ci, m_cl, m_cf, m_cd, m_cr]) (by first | exact Nat.le_of_ble_eq_true rfl | simp [lg_sl, m_cat, m_ci, m_cl, m_cf, m_cd, m_cr]) ?_
  intro p e R s m args below meth c ws0 wsf rr cx hE ws H locs cells slots ls hl hH hF
  obtain ⟨hx, hb, hr, hml, hown, hk, hz, hlocks, hnm, hfr, hlo⟩ := id cx
  unfold F_X8_hasTwoCounts at hF
  refine lv_iconst (v := (1)) hx hb dX8_hasTwoCounts_0 (by decide) ?_
  refine lv_istore_n (lv' := [(1, .int (1 : Int32)), (0, .ref o)]) hx hb dX8_hasTwoCounts_1 rfl hl (by decide) (by first | rfl | simp [m_cat, m_ci, m_cl, m_cf, m_cd, m_cr]) (fun ls hl => ?_)
  refine w_X8_hasTwoCounts_2 cx hE o _ (fun ws H locs cells slots ls hl hH hF => ?_) _ _ _ _ _ _ _ _ (lv_sub hl [1, 0] rfl) hH hF
  refine lv_iconst (v := (0)) hx hb dX8_hasTwoCounts_33 (by decide) ?_
  exact m_iret hx hb hr hlocks hH hE hF rfl dX8_hasTwoCounts_34

def b_X8_fitted_16 (x0 : Nat) (rec : Int64 → Int64 → Int64 → Int64 → Int64 → Int32 → St (Option Nat)) (k : Int64 → Int64 → Int64 → Int64 → Int64 → St (Option Nat)) (x1 : Int64) (x3 : Int64) (x5 : Int64) (x7 : Int64) (x9 : Int64) (x11 : Int32) : St (Option Nat) :=
  bd (gI [7] 3 (some x0)) fun v1 => br (v1 ≤ x11) (k x1 x3 x5 x7 x9) (bd (gR [7] 2 (some x0)) fun v3 => bd (aI 0 v3 x11) fun v4 => bd (gR [7] 0 (some x0)) fun v5 => bd (aI 0 v5 x11) fun v6 => bd (rt (x1 + v4.toInt64)) fun v7 => bd (rt (x3 + (v4.toInt64 * v6.toInt64))) fun v8 => bd (rt (x5 + ((v4.toInt64 * v6.toInt64) * v6.toInt64))) fun v9 => bd (gR [7] 1 (some x0)) fun v10 => bd (aI 0 v10 x11) fun v11 => bd (rt (x7 + (v4.toInt64 * v11.toInt64))) fun v12 => bd (gR [7] 1 (some x0)) fun v13 => bd (aI 0 v13 x11) fun v14 => bd (rt (x9 + ((v4.toInt64 * v6.toInt64) * v14.toInt64))) fun v15 => rec v7 v8 v9 v12 v15 (x11 + (1 : Int32)))
def l_X8_fitted_16 (x0 : Nat) (k : Int64 → Int64 → Int64 → Int64 → Int64 → St (Option Nat)) : Nat → Int64 → Int64 → Int64 → Int64 → Int64 → Int32 → St (Option Nat)
  | 0 => fun _ _ _ _ _ _ => fl
  | n + 1 => fun x1 x3 x5 x7 x9 x11 => b_X8_fitted_16 x0 (l_X8_fitted_16 x0 k n) k x1 x3 x5 x7 x9 x11
def F_X8_fitted (o : Nat) : St (Option Nat) :=
  l_X8_fitted_16 o (fun (e16 : Int64) (e17 : Int64) (e18 : Int64) (e19 : Int64) (e20 : Int64) => bd (mk 7 (.inr (3, [.int 0, .int 0, .null, .null, .long 0, .long 0, .long 0]))) fun a21 => bd (F_X4_init a21 ((e18 * e19) - (e17 * e20)) ((e16 * e20) - (e17 * e19)) ((e16 * e18) - (e17 * e17))) fun c22 => rt (some a21)) FU (0 : Int64) (0 : Int64) (0 : Int64) (0 : Int64) (0 : Int64) (0 : Int32)
set_option maxHeartbeats 4000000 in
set_option maxRecDepth 100000 in
theorem wb_X8_fitted_16 {l : Launch} {D : va_G} {cy : Nat → ClassId} {z : Nat} {p : Program} {e : Env} {R : Room} {s : State} {m : MethodId} {args : Array Value} {below : List Frame} {meth : Method} {c : Code} {ws0 wsf : WS} {rr : Option Nat} (cx : Cx D cy z RX8 cX8_fitted 16 (some (.object "CurveFoundry$Curve")) 3 88 "fitted" p R s m meth c) (hE : AC ws0 wsf R.cells R.slots) (x0 : Nat) (rec : Int64 → Int64 → Int64 → Int64 → Int64 → Int32 → St (Option Nat)) (k : Int64 → Int64 → Int64 → Int64 → Int64 → St (Option Nat)) (hrec : ∀ (x1 : Int64) (x3 : Int64) (x5 : Int64) (x7 : Int64) (x9 : Int64) (x11 : Int32), At_ l D cy z p e R s m args below meth c ws0 wsf vR rr 16 16 [(0, .ref x0), (1, .long x1), (3, .long x3), (5, .long x5), (7, .long x7), (9, .long x9), (11, .int x11)] [] (rec x1 x3 x5 x7 x9 x11)) (hkk : ∀ (x1 : Int64) (x3 : Int64) (x5 : Int64) (x7 : Int64) (x9 : Int64), At_ l D cy z p e R s m args below meth c ws0 wsf vR rr 16 112 [(1, .long x1), (3, .long x3), (5, .long x5), (7, .long x7), (9, .long x9)] [] (k x1 x3 x5 x7 x9)) (x1 : Int64) (x3 : Int64) (x5 : Int64) (x7 : Int64) (x9 : Int64) (x11 : Int32) : At_ l D cy z p e R s m args below meth c ws0 wsf vR rr 16 16 [(0, .ref x0), (1, .long x1), (3, .long x3), (5, .long x5), (7, .long x7), (9, .long x9), (11, .int x11)] [] (b_X8_fitted_16 x0 rec k x1 x3 x5 x7 x9 x11) := by
  intro ws H locs cells slots ls hl hH hF
  obtain ⟨hx, hb, hr, hml, hown, hk, hz, hlocks, hnm, hfr, hlo⟩ := id cx
  unfold b_X8_fitted_16 at hF
  refine lv_iload hx hb dX8_fitted_16 (lv_at hl 6 rfl) ?_
  refine lv_aload_n hx hb dX8_fitted_18 rfl (lv_at hl 0 rfl) ?_
  refine m_gI hx hb hown hk hH hF fk_RX8_size lk_RX8_21 dX8_fitted_19 (fun v1 hF => ?_)
  refine lv_icmp_ge (tgt := 112) hx hb dX8_fitted_22 (by decide) (fun hc1 => ?_) (fun hc1 => ?_)
  · have hF := bq_t hc1 hF
    exact hkk _ _ _ _ _ _ _ _ _ _ _ (lv_sub hl [1, 2, 3, 4, 5] rfl) hH hF
  · have hF := bq_f hc1 hF
    refine lv_aload_n hx hb dX8_fitted_25 rfl (lv_at hl 0 rfl) ?_
    refine m_gR hx hb hown hk hH hF fk_RX8_weights lk_RX8_18 dX8_fitted_26 (fun v3 hF => ?_)
    refine lv_iload hx hb dX8_fitted_29 (lv_at hl 6 rfl) ?_
    refine m_aI0 hx hb hk hH hF dX8_fitted_31 (fun v4 hF => ?_)
    refine lv_i2l hx hb dX8_fitted_32 rfl ?_
    refine lv_lstore (lv' := [(12, .long v4.toInt64), (0, .ref x0), (1, .long x1), (3, .long x3), (5, .long x5), (7, .long x7), (9, .long x9), (11, .int x11)]) hx hb dX8_fitted_33 hl (by decide) (by first | rfl | simp [m_cat, m_ci, m_cl, m_cf, m_cd, m_cr]) (fun ls hl => ?_)
    refine lv_aload_n hx hb dX8_fitted_35 rfl (lv_at hl 1 rfl) ?_
    refine m_gR hx hb hown hk hH hF fk_RX8_counts lk_RX8_9 dX8_fitted_36 (fun v5 hF => ?_)
    refine lv_iload hx hb dX8_fitted_39 (lv_at hl 7 rfl) ?_
    refine m_aI0 hx hb hk hH hF dX8_fitted_41 (fun v6 hF => ?_)
    refine lv_i2l hx hb dX8_fitted_42 rfl ?_
    refine lv_lstore (lv' := [(14, .long v6.toInt64), (12, .long v4.toInt64), (0, .ref x0), (1, .long x1), (3, .long x3), (5, .long x5), (7, .long x7), (9, .long x9), (11, .int x11)]) hx hb dX8_fitted_43 hl (by decide) (by first | rfl | simp [m_cat, m_ci, m_cl, m_cf, m_cd, m_cr]) (fun ls hl => ?_)
    refine lv_lload_n hx hb dX8_fitted_45 rfl (lv_at hl 3 rfl) ?_
    refine lv_lload hx hb dX8_fitted_46 (lv_at hl 1 rfl) ?_
    refine lv_ladd hx hb dX8_fitted_48 ?_
    refine lv_topl (fun v7 hv7 => ?_)
    have hF := rt_t hv7 hF
    refine lv_lstore_n (lv' := [(1, .long v7), (14, .long v6.toInt64), (12, .long v4.toInt64), (0, .ref x0), (3, .long x3), (5, .long x5), (7, .long x7), (9, .long x9), (11, .int x11)]) hx hb dX8_fitted_49 rfl hl (by decide) (by first | rfl | simp [m_cat, m_ci, m_cl, m_cf, m_cd, m_cr]) (fun ls hl => ?_)
    refine lv_lload_n hx hb dX8_fitted_50 rfl (lv_at hl 4 rfl) ?_
    refine lv_lload hx hb dX8_fitted_51 (lv_at hl 2 rfl) ?_
    refine lv_lload hx hb dX8_fitted_53 (lv_at hl 1 rfl) ?_
    refine lv_lmul hx hb dX8_fitted_55 ?_
    refine lv_ladd hx hb dX8_fitted_56 ?_
    refine lv_topl (fun v8 hv8 => ?_)
    have hF := rt_t hv8 hF
    refine lv_lstore_n (lv' := [(3, .long v8), (1, .long v7), (14, .long v6.toInt64), (12, .long v4.toInt64), (0, .ref x0), (5, .long x5), (7, .long x7), (9, .long x9), (11, .int x11)]) hx hb dX8_fitted_57 rfl hl (by decide) (by first | rfl | simp [m_cat, m_ci, m_cl, m_cf, m_cd, m_cr]) (fun ls hl => ?_)
    refine lv_lload hx hb dX8_fitted_58 (lv_at hl 5 rfl) ?_
    refine lv_lload hx hb dX8_fitted_60 (lv_at hl 3 rfl) ?_
    refine lv_lload hx hb dX8_fitted_62 (lv_at hl 2 rfl) ?_
    refine lv_lmul hx hb dX8_fitted_64 ?_
    refine lv_lload hx hb dX8_fitted_65 (lv_at hl 2 rfl) ?_
    refine lv_lmul hx hb dX8_fitted_67 ?_
    refine lv_ladd hx hb dX8_fitted_68 ?_
    refine lv_topl (fun v9 hv9 => ?_)
    have hF := rt_t hv9 hF
    refine lv_lstore (lv' := [(5, .long v9), (3, .long v8), (1, .long v7), (14, .long v6.toInt64), (12, .long v4.toInt64), (0, .ref x0), (7, .long x7), (9, .long x9), (11, .int x11)]) hx hb dX8_fitted_69 hl (by decide) (by first | rfl | simp [m_cat, m_ci, m_cl, m_cf, m_cd, m_cr]) (fun ls hl => ?_)
    refine lv_lload hx hb dX8_fitted_71 (lv_at hl 6 rfl) ?_
    refine lv_lload hx hb dX8_fitted_73 (lv_at hl 4 rfl) ?_
    refine lv_aload_n hx hb dX8_fitted_75 rfl (lv_at hl 5 rfl) ?_
    refine m_gR hx hb hown hk hH hF fk_RX8_references lk_RX8_15 dX8_fitted_76 (fun v10 hF => ?_)
    refine lv_iload hx hb dX8_fitted_79 (lv_at hl 8 rfl) ?_
    refine m_aI0 hx hb hk hH hF dX8_fitted_81 (fun v11 hF => ?_)
    refine lv_i2l hx hb dX8_fitted_82 rfl ?_
    refine lv_lmul hx hb dX8_fitted_83 ?_
    refine lv_ladd hx hb dX8_fitted_84 ?_
    refine lv_topl (fun v12 hv12 => ?_)
    have hF := rt_t hv12 hF
    refine lv_lstore (lv' := [(7, .long v12), (5, .long v9), (3, .long v8), (1, .long v7), (14, .long v6.toInt64), (12, .long v4.toInt64), (0, .ref x0), (9, .long x9), (11, .int x11)]) hx hb dX8_fitted_85 hl (by decide) (by first | rfl | simp [m_cat, m_ci, m_cl, m_cf, m_cd, m_cr]) (fun ls hl => ?_)
    refine lv_lload hx hb dX8_fitted_87 (lv_at hl 7 rfl) ?_
    refine lv_lload hx hb dX8_fitted_89 (lv_at hl 5 rfl) ?_
    refine lv_lload hx hb dX8_fitted_91 (lv_at hl 4 rfl) ?_
    refine lv_lmul hx hb dX8_fitted_93 ?_
    refine lv_aload_n hx hb dX8_fitted_94 rfl (lv_at hl 6 rfl) ?_
    refine m_gR hx hb hown hk hH hF fk_RX8_references lk_RX8_15 dX8_fitted_95 (fun v13 hF => ?_)
    refine lv_iload hx hb dX8_fitted_98 (lv_at hl 8 rfl) ?_
    refine m_aI0 hx hb hk hH hF dX8_fitted_100 (fun v14 hF => ?_)
    refine lv_i2l hx hb dX8_fitted_101 rfl ?_
    refine lv_lmul hx hb dX8_fitted_102 ?_
    refine lv_ladd hx hb dX8_fitted_103 ?_
    refine lv_topl (fun v15 hv15 => ?_)
    have hF := rt_t hv15 hF
    refine lv_lstore (lv' := [(9, .long v15), (7, .long v12), (5, .long v9), (3, .long v8), (1, .long v7), (14, .long v6.toInt64), (12, .long v4.toInt64), (0, .ref x0), (11, .int x11)]) hx hb dX8_fitted_104 hl (by decide) (by first | rfl | simp [m_cat, m_ci, m_cl, m_cf, m_cd, m_cr]) (fun ls hl => ?_)
    refine lv_iinc (v := (x11 + (1 : Int32))) (lv' := [(11, .int (x11 + (1 : Int32))), (9, .long v15), (7, .long v12), (5, .long v9), (3, .long v8), (1, .long v7), (14, .long v6.toInt64), (12, .long v4.toInt64), (0, .ref x0)]) hx hb dX8_fitted_106 hl (k := 8) rfl (by first | rfl | (congr 1)) (by decide) (by first | rfl | simp [m_cat, m_ci, m_cl, m_cf, m_cd, m_cr]) (fun ls hl => ?_)
    refine lv_goto (tgt := 16) hx hb dX8_fitted_109 (by decide) ?_
    exact hrec _ _ _ _ _ _ _ _ _ _ _ _ (lv_sub hl [8, 5, 4, 3, 2, 1, 0] rfl) hH hF
theorem w_X8_fitted_16 {l : Launch} {D : va_G} {cy : Nat → ClassId} {z : Nat} {p : Program} {e : Env} {R : Room} {s : State} {m : MethodId} {args : Array Value} {below : List Frame} {meth : Method} {c : Code} {ws0 wsf : WS} {rr : Option Nat} (cx : Cx D cy z RX8 cX8_fitted 16 (some (.object "CurveFoundry$Curve")) 3 88 "fitted" p R s m meth c) (hE : AC ws0 wsf R.cells R.slots) (x0 : Nat) (k : Int64 → Int64 → Int64 → Int64 → Int64 → St (Option Nat)) (hkk : ∀ (x1 : Int64) (x3 : Int64) (x5 : Int64) (x7 : Int64) (x9 : Int64), At_ l D cy z p e R s m args below meth c ws0 wsf vR rr 16 112 [(1, .long x1), (3, .long x3), (5, .long x5), (7, .long x7), (9, .long x9)] [] (k x1 x3 x5 x7 x9)) : ∀ (n : Nat) (x1 : Int64) (x3 : Int64) (x5 : Int64) (x7 : Int64) (x9 : Int64) (x11 : Int32), At_ l D cy z p e R s m args below meth c ws0 wsf vR rr 16 16 [(0, .ref x0), (1, .long x1), (3, .long x3), (5, .long x5), (7, .long x7), (9, .long x9), (11, .int x11)] [] (l_X8_fitted_16 x0 k n x1 x3 x5 x7 x9 x11) := by
  intro n
  induction n with
  | zero =>
    intro x1 x3 x5 x7 x9 x11 ws H locs cells slots ls hl hH hF
    exact fl_t hF
  | succ n ih =>
    intro x1 x3 x5 x7 x9 x11
    exact wb_X8_fitted_16 cx hE x0 (l_X8_fitted_16 x0 k n) k ih hkk x1 x3 x5 x7 x9 x11
set_option maxHeartbeats 4000000 in
set_option maxRecDepth 100000 in
theorem t_X8_fitted (l : Launch) (D : va_G) (cy : Nat → ClassId) (z : Nat) (o : Nat) : MT l D cy z yX8_fitted cX8_fitted 16 (some (.object "CurveFoundry$Curve")) 3 88 (F_X8_fitted o) vR [.ref o] := by
  refine m_enter [(0, .ref o)] (by decide) (by first | rfl | simp [lv_args, m_cat, m_ci, m_cl, m_cf, m_cd, m_cr]) (by first | exact Nat.le_of_ble_eq_true rfl | simp [lg_sl, m_cat, m_ci, m_cl, m_cf, m_cd, m_cr]) ?_
  intro p e R s m args below meth c ws0 wsf rr cx hE ws H locs cells slots ls hl hH hF
  obtain ⟨hx, hb, hr, hml, hown, hk, hz, hlocks, hnm, hfr, hlo⟩ := id cx
  unfold F_X8_fitted at hF
  refine lv_lconst (v := (0)) hx hb dX8_fitted_0 (by decide) ?_
  refine lv_lstore_n (lv' := [(1, .long (0 : Int64)), (0, .ref o)]) hx hb dX8_fitted_1 rfl hl (by decide) (by first | rfl | simp [m_cat, m_ci, m_cl, m_cf, m_cd, m_cr]) (fun ls hl => ?_)
  refine lv_lconst (v := (0)) hx hb dX8_fitted_2 (by decide) ?_
  refine lv_lstore_n (lv' := [(3, .long (0 : Int64)), (1, .long (0 : Int64)), (0, .ref o)]) hx hb dX8_fitted_3 rfl hl (by decide) (by first | rfl | simp [m_cat, m_ci, m_cl, m_cf, m_cd, m_cr]) (fun ls hl => ?_)
  refine lv_lconst (v := (0)) hx hb dX8_fitted_4 (by decide) ?_
  refine lv_lstore (lv' := [(5, .long (0 : Int64)), (3, .long (0 : Int64)), (1, .long (0 : Int64)), (0, .ref o)]) hx hb dX8_fitted_5 hl (by decide) (by first | rfl | simp [m_cat, m_ci, m_cl, m_cf, m_cd, m_cr]) (fun ls hl => ?_)
  refine lv_lconst (v := (0)) hx hb dX8_fitted_7 (by decide) ?_
  refine lv_lstore (lv' := [(7, .long (0 : Int64)), (5, .long (0 : Int64)), (3, .long (0 : Int64)), (1, .long (0 : Int64)), (0, .ref o)]) hx hb dX8_fitted_8 hl (by decide) (by first | rfl | simp [m_cat, m_ci, m_cl, m_cf, m_cd, m_cr]) (fun ls hl => ?_)
  refine lv_lconst (v := (0)) hx hb dX8_fitted_10 (by decide) ?_
  refine lv_lstore (lv' := [(9, .long (0 : Int64)), (7, .long (0 : Int64)), (5, .long (0 : Int64)), (3, .long (0 : Int64)), (1, .long (0 : Int64)), (0, .ref o)]) hx hb dX8_fitted_11 hl (by decide) (by first | rfl | simp [m_cat, m_ci, m_cl, m_cf, m_cd, m_cr]) (fun ls hl => ?_)
  refine lv_iconst (v := (0)) hx hb dX8_fitted_13 (by decide) ?_
  refine lv_istore (lv' := [(11, .int (0 : Int32)), (9, .long (0 : Int64)), (7, .long (0 : Int64)), (5, .long (0 : Int64)), (3, .long (0 : Int64)), (1, .long (0 : Int64)), (0, .ref o)]) hx hb dX8_fitted_14 hl (by decide) (by first | rfl | simp [m_cat, m_ci, m_cl, m_cf, m_cd, m_cr]) (fun ls hl => ?_)
  refine w_X8_fitted_16 cx hE o _ (fun e16 e17 e18 e19 e20 ws H locs cells slots ls hl hH hF => ?_) _ _ _ _ _ _ _ _ _ _ _ _ _ (lv_sub hl [6, 5, 4, 3, 2, 1, 0] rfl) hH hF
  refine m_new hx hb hown hk hH hE.le hz hF rfl nf_RX4 wd_239 wd_240 wd_40 dX8_fitted_112 (fun a21 ws H hH hF => ?_)
  refine lv_dup hx hb dX8_fitted_115 rfl ?_
  refine lv_lload hx hb dX8_fitted_116 (lv_at hl 2 rfl) ?_
  refine lv_lload hx hb dX8_fitted_118 (lv_at hl 3 rfl) ?_
  refine lv_lmul hx hb dX8_fitted_120 ?_
  refine lv_lload_n hx hb dX8_fitted_121 rfl (lv_at hl 1 rfl) ?_
  refine lv_lload hx hb dX8_fitted_122 (lv_at hl 4 rfl) ?_
  refine lv_lmul hx hb dX8_fitted_124 ?_
  refine lv_lsub hx hb dX8_fitted_125 ?_
  refine lv_lload_n hx hb dX8_fitted_126 rfl (lv_at hl 0 rfl) ?_
  refine lv_lload hx hb dX8_fitted_127 (lv_at hl 4 rfl) ?_
  refine lv_lmul hx hb dX8_fitted_129 ?_
  refine lv_lload_n hx hb dX8_fitted_130 rfl (lv_at hl 1 rfl) ?_
  refine lv_lload hx hb dX8_fitted_131 (lv_at hl 3 rfl) ?_
  refine lv_lmul hx hb dX8_fitted_133 ?_
  refine lv_lsub hx hb dX8_fitted_134 ?_
  refine lv_lload_n hx hb dX8_fitted_135 rfl (lv_at hl 0 rfl) ?_
  refine lv_lload hx hb dX8_fitted_136 (lv_at hl 2 rfl) ?_
  refine lv_lmul hx hb dX8_fitted_138 ?_
  refine lv_lload_n hx hb dX8_fitted_139 rfl (lv_at hl 1 rfl) ?_
  refine lv_lload_n hx hb dX8_fitted_140 rfl (lv_at hl 1 rfl) ?_
  refine lv_lmul hx hb dX8_fitted_141 ?_
  refine lv_lsub hx hb dX8_fitted_142 ?_
  refine m_cI hx hb hml hown hk hH hE.le hz (b := a21) (As := [.long ((e18 * e19) - (e17 * e20)), .long ((e16 * e20) - (e17 * e19)), .long ((e16 * e18) - (e17 * e17))]) (rest := [.ref a21]) (t_X4_init l D cy z a21 ((e18 * e19) - (e17 * e20)) ((e16 * e20) - (e17 * e19)) ((e16 * e18) - (e17 * e17))) hF wd_241 wd_242 wd_40 wd_243 yn_X4_init rfl ⟨Nat.le_trans (by decide) hfr, Nat.le_trans (by decide) hlo⟩ hl.1 (by first | exact Nat.le_of_ble_eq_true rfl | simp [m_cat, m_ci, m_cl, m_cf, m_cd, m_cr]) rfl dX8_fitted_143 (fun c22 ws H locs cells slots hH hF => ?_)
  exact m_aret hx hb hr (Or.inl ⟨_, rfl⟩) hlocks hH hE hF dX8_fitted_146

def j_X8_leastCountAbove_41 (rec : Int32 → Int32 → St (Int32)) (k : Int32 → St (Int32)) (x0 : Nat) (x1 : Int32) (x2 : Int32) (x3 : Int32) : St (Int32) :=
  rec x2 (x3 + (1 : Int32))
def b_X8_leastCountAbove_6 (x0 : Nat) (x1 : Int32) (rec : Int32 → Int32 → St (Int32)) (k : Int32 → St (Int32)) (x2 : Int32) (x3 : Int32) : St (Int32) :=
  bd (gI [7] 3 (some x0)) fun v1 => br (v1 ≤ x3) (k x2) (bd (gR [7] 0 (some x0)) fun v3 => bd (aI 0 v3 x3) fun v4 => br (v4 ≤ x1) (j_X8_leastCountAbove_41 rec k x0 x1 x2 x3) (bd (gR [7] 0 (some x0)) fun v6 => bd (aI 0 v6 x3) fun v7 => br (x2 ≤ v7) (j_X8_leastCountAbove_41 rec k x0 x1 x2 x3) (bd (gR [7] 0 (some x0)) fun v9 => bd (aI 0 v9 x3) fun v10 => j_X8_leastCountAbove_41 rec k x0 x1 v10 x3)))
def l_X8_leastCountAbove_6 (x0 : Nat) (x1 : Int32) (k : Int32 → St (Int32)) : Nat → Int32 → Int32 → St (Int32)
  | 0 => fun _ _ => fl
  | n + 1 => fun x2 x3 => b_X8_leastCountAbove_6 x0 x1 (l_X8_leastCountAbove_6 x0 x1 k n) k x2 x3
def F_X8_leastCountAbove (o : Nat) (x1 : Int32) : St (Int32) :=
  l_X8_leastCountAbove_6 o x1 (fun (e11 : Int32) => rt e11) FU (4096 : Int32) (0 : Int32)
set_option maxHeartbeats 4000000 in
set_option maxRecDepth 100000 in
theorem w_X8_leastCountAbove_41 {l : Launch} {D : va_G} {cy : Nat → ClassId} {z : Nat} {p : Program} {e : Env} {R : Room} {s : State} {m : MethodId} {args : Array Value} {below : List Frame} {meth : Method} {c : Code} {ws0 wsf : WS} {rr : Int32} (cx : Cx D cy z RX8 cX8_leastCountAbove 4 (some .int) 0 0 "leastCountAbove" p R s m meth c) (hE : AC ws0 wsf R.cells R.slots) (rec : Int32 → Int32 → St (Int32)) (k : Int32 → St (Int32)) (x0 : Nat) (x1 : Int32) (hrec : ∀ (x2 : Int32) (x3 : Int32), At_ l D cy z p e R s m args below meth c ws0 wsf vI rr 4 6 [(0, .ref x0), (1, .int x1), (2, .int x2), (3, .int x3)] [] (rec x2 x3)) (hkk : ∀ (x2 : Int32), At_ l D cy z p e R s m args below meth c ws0 wsf vI rr 4 47 [(2, .int x2)] [] (k x2)) (x2 : Int32) (x3 : Int32) : At_ l D cy z p e R s m args below meth c ws0 wsf vI rr 4 41 [(0, .ref x0), (1, .int x1), (2, .int x2), (3, .int x3)] [] (j_X8_leastCountAbove_41 rec k x0 x1 x2 x3) := by
  intro ws H locs cells slots ls hl hH hF
  obtain ⟨hx, hb, hr, hml, hown, hk, hz, hlocks, hnm, hfr, hlo⟩ := id cx
  unfold j_X8_leastCountAbove_41 at hF
  refine lv_iinc (v := (x3 + (1 : Int32))) (lv' := [(3, .int (x3 + (1 : Int32))), (0, .ref x0), (1, .int x1), (2, .int x2)]) hx hb dX8_leastCountAbove_41 hl (k := 3) rfl (by first | rfl | (congr 1)) (by decide) (by first | rfl | simp [m_cat, m_ci, m_cl, m_cf, m_cd, m_cr]) (fun ls hl => ?_)
  refine lv_goto (tgt := 6) hx hb dX8_leastCountAbove_44 (by decide) ?_
  exact hrec _ _ _ _ _ _ _ _ (lv_sub hl [1, 2, 3, 0] rfl) hH hF
set_option maxHeartbeats 4000000 in
set_option maxRecDepth 100000 in
theorem wb_X8_leastCountAbove_6 {l : Launch} {D : va_G} {cy : Nat → ClassId} {z : Nat} {p : Program} {e : Env} {R : Room} {s : State} {m : MethodId} {args : Array Value} {below : List Frame} {meth : Method} {c : Code} {ws0 wsf : WS} {rr : Int32} (cx : Cx D cy z RX8 cX8_leastCountAbove 4 (some .int) 0 0 "leastCountAbove" p R s m meth c) (hE : AC ws0 wsf R.cells R.slots) (x0 : Nat) (x1 : Int32) (rec : Int32 → Int32 → St (Int32)) (k : Int32 → St (Int32)) (hrec : ∀ (x2 : Int32) (x3 : Int32), At_ l D cy z p e R s m args below meth c ws0 wsf vI rr 4 6 [(0, .ref x0), (1, .int x1), (2, .int x2), (3, .int x3)] [] (rec x2 x3)) (hkk : ∀ (x2 : Int32), At_ l D cy z p e R s m args below meth c ws0 wsf vI rr 4 47 [(2, .int x2)] [] (k x2)) (x2 : Int32) (x3 : Int32) : At_ l D cy z p e R s m args below meth c ws0 wsf vI rr 4 6 [(0, .ref x0), (1, .int x1), (2, .int x2), (3, .int x3)] [] (b_X8_leastCountAbove_6 x0 x1 rec k x2 x3) := by
  intro ws H locs cells slots ls hl hH hF
  obtain ⟨hx, hb, hr, hml, hown, hk, hz, hlocks, hnm, hfr, hlo⟩ := id cx
  unfold b_X8_leastCountAbove_6 at hF
  refine lv_iload_n hx hb dX8_leastCountAbove_6 rfl (lv_at hl 3 rfl) ?_
  refine lv_aload_n hx hb dX8_leastCountAbove_7 rfl (lv_at hl 0 rfl) ?_
  refine m_gI hx hb hown hk hH hF fk_RX8_size lk_RX8_21 dX8_leastCountAbove_8 (fun v1 hF => ?_)
  refine lv_icmp_ge (tgt := 47) hx hb dX8_leastCountAbove_11 (by decide) (fun hc1 => ?_) (fun hc1 => ?_)
  · have hF := bq_t hc1 hF
    exact hkk _ _ _ _ _ _ _ (lv_sub hl [2] rfl) hH hF
  · have hF := bq_f hc1 hF
    refine lv_aload_n hx hb dX8_leastCountAbove_14 rfl (lv_at hl 0 rfl) ?_
    refine m_gR hx hb hown hk hH hF fk_RX8_counts lk_RX8_9 dX8_leastCountAbove_15 (fun v3 hF => ?_)
    refine lv_iload_n hx hb dX8_leastCountAbove_18 rfl (lv_at hl 3 rfl) ?_
    refine m_aI0 hx hb hk hH hF dX8_leastCountAbove_19 (fun v4 hF => ?_)
    refine lv_iload_n hx hb dX8_leastCountAbove_20 rfl (lv_at hl 1 rfl) ?_
    refine lv_icmp_le (tgt := 41) hx hb dX8_leastCountAbove_21 (by decide) (fun hc4 => ?_) (fun hc4 => ?_)
    · have hF := bq_t hc4 hF
      exact w_X8_leastCountAbove_41 cx hE _ _ x0 x1 hrec hkk x2 x3 _ _ _ _ _ _ (lv_sub hl [0, 1, 2, 3] rfl) hH hF
    · have hF := bq_f hc4 hF
      refine lv_aload_n hx hb dX8_leastCountAbove_24 rfl (lv_at hl 0 rfl) ?_
      refine m_gR hx hb hown hk hH hF fk_RX8_counts lk_RX8_9 dX8_leastCountAbove_25 (fun v6 hF => ?_)
      refine lv_iload_n hx hb dX8_leastCountAbove_28 rfl (lv_at hl 3 rfl) ?_
      refine m_aI0 hx hb hk hH hF dX8_leastCountAbove_29 (fun v7 hF => ?_)
      refine lv_iload_n hx hb dX8_leastCountAbove_30 rfl (lv_at hl 2 rfl) ?_
      refine lv_icmp_ge (tgt := 41) hx hb dX8_leastCountAbove_31 (by decide) (fun hc7 => ?_) (fun hc7 => ?_)
      · have hF := bq_t hc7 hF
        exact w_X8_leastCountAbove_41 cx hE _ _ x0 x1 hrec hkk x2 x3 _ _ _ _ _ _ (lv_sub hl [0, 1, 2, 3] rfl) hH hF
      · have hF := bq_f hc7 hF
        refine lv_aload_n hx hb dX8_leastCountAbove_34 rfl (lv_at hl 0 rfl) ?_
        refine m_gR hx hb hown hk hH hF fk_RX8_counts lk_RX8_9 dX8_leastCountAbove_35 (fun v9 hF => ?_)
        refine lv_iload_n hx hb dX8_leastCountAbove_38 rfl (lv_at hl 3 rfl) ?_
        refine m_aI0 hx hb hk hH hF dX8_leastCountAbove_39 (fun v10 hF => ?_)
        refine lv_istore_n (lv' := [(2, .int v10), (0, .ref x0), (1, .int x1), (3, .int x3)]) hx hb dX8_leastCountAbove_40 rfl hl (by decide) (by first | rfl | simp [m_cat, m_ci, m_cl, m_cf, m_cd, m_cr]) (fun ls hl => ?_)
        exact w_X8_leastCountAbove_41 cx hE _ _ x0 x1 hrec hkk v10 x3 _ _ _ _ _ _ (lv_sub hl [1, 2, 0, 3] rfl) hH hF
theorem w_X8_leastCountAbove_6 {l : Launch} {D : va_G} {cy : Nat → ClassId} {z : Nat} {p : Program} {e : Env} {R : Room} {s : State} {m : MethodId} {args : Array Value} {below : List Frame} {meth : Method} {c : Code} {ws0 wsf : WS} {rr : Int32} (cx : Cx D cy z RX8 cX8_leastCountAbove 4 (some .int) 0 0 "leastCountAbove" p R s m meth c) (hE : AC ws0 wsf R.cells R.slots) (x0 : Nat) (x1 : Int32) (k : Int32 → St (Int32)) (hkk : ∀ (x2 : Int32), At_ l D cy z p e R s m args below meth c ws0 wsf vI rr 4 47 [(2, .int x2)] [] (k x2)) : ∀ (n : Nat) (x2 : Int32) (x3 : Int32), At_ l D cy z p e R s m args below meth c ws0 wsf vI rr 4 6 [(0, .ref x0), (1, .int x1), (2, .int x2), (3, .int x3)] [] (l_X8_leastCountAbove_6 x0 x1 k n x2 x3) := by
  intro n
  induction n with
  | zero =>
    intro x2 x3 ws H locs cells slots ls hl hH hF
    exact fl_t hF
  | succ n ih =>
    intro x2 x3
    exact wb_X8_leastCountAbove_6 cx hE x0 x1 (l_X8_leastCountAbove_6 x0 x1 k n) k ih hkk x2 x3
set_option maxHeartbeats 4000000 in
set_option maxRecDepth 100000 in
theorem t_X8_leastCountAbove (l : Launch) (D : va_G) (cy : Nat → ClassId) (z : Nat) (o : Nat) (x1 : Int32) : MT l D cy z yX8_leastCountAbove cX8_leastCountAbove 4 (some .int) 0 0 (F_X8_leastCountAbove o x1) vI [.ref o, .int x1] := by
  refine m_enter [(0, .ref o), (1, .int x1)] (by decide) (by first | rfl | simp [lv_args, m_cat, m_ci, m_cl, m_cf, m_cd, m_cr]) (by first | exact Nat.le_of_ble_eq_true rfl | simp [lg_sl, m_cat, m_ci, m_cl, m_cf, m_cd, m_cr]) ?_
  intro p e R s m args below meth c ws0 wsf rr cx hE ws H locs cells slots ls hl hH hF
  obtain ⟨hx, hb, hr, hml, hown, hk, hz, hlocks, hnm, hfr, hlo⟩ := id cx
  unfold F_X8_leastCountAbove at hF
  refine lv_sipush (v := (4096)) hx hb dX8_leastCountAbove_0 (by decide) ?_
  refine lv_istore_n (lv' := [(2, .int (4096 : Int32)), (0, .ref o), (1, .int x1)]) hx hb dX8_leastCountAbove_3 rfl hl (by decide) (by first | rfl | simp [m_cat, m_ci, m_cl, m_cf, m_cd, m_cr]) (fun ls hl => ?_)
  refine lv_iconst (v := (0)) hx hb dX8_leastCountAbove_4 (by decide) ?_
  refine lv_istore_n (lv' := [(3, .int (0 : Int32)), (2, .int (4096 : Int32)), (0, .ref o), (1, .int x1)]) hx hb dX8_leastCountAbove_5 rfl hl (by decide) (by first | rfl | simp [m_cat, m_ci, m_cl, m_cf, m_cd, m_cr]) (fun ls hl => ?_)
  refine w_X8_leastCountAbove_6 cx hE o x1 _ (fun e11 ws H locs cells slots ls hl hH hF => ?_) _ _ _ _ _ _ _ _ _ (lv_sub hl [2, 3, 1, 0] rfl) hH hF
  refine lv_iload_n hx hb dX8_leastCountAbove_47 rfl (lv_at hl 0 rfl) ?_
  exact m_iret hx hb hr hlocks hH hE hF rfl dX8_leastCountAbove_48

def j_X8_meanReference_61 (rec : Int64 → Int64 → Int32 → St (Int32)) (k : Int64 → Int64 → St (Int32)) (x0 : Nat) (x1 : Int32) (x2 : Int64) (x4 : Int64) (x6 : Int32) : St (Int32) :=
  rec x2 x4 (x6 + (1 : Int32))
def b_X8_meanReference_8 (x0 : Nat) (x1 : Int32) (rec : Int64 → Int64 → Int32 → St (Int32)) (k : Int64 → Int64 → St (Int32)) (x2 : Int64) (x4 : Int64) (x6 : Int32) : St (Int32) :=
  bd (gI [7] 3 (some x0)) fun v1 => br (v1 ≤ x6) (k x2 x4) (bd (gR [7] 0 (some x0)) fun v3 => bd (aI 0 v3 x6) fun v4 => br (v4 = x1) (bd (gR [7] 2 (some x0)) fun v6 => bd (aI 0 v6 x6) fun v7 => bd (gR [7] 1 (some x0)) fun v8 => bd (aI 0 v8 x6) fun v9 => bd (rt (x2 + (v7.toInt64 * v9.toInt64))) fun v10 => bd (gR [7] 2 (some x0)) fun v11 => bd (aI 0 v11 x6) fun v12 => bd (rt (x4 + v12.toInt64)) fun v13 => j_X8_meanReference_61 rec k x0 x1 v10 v13 x6) (j_X8_meanReference_61 rec k x0 x1 x2 x4 x6))
def l_X8_meanReference_8 (x0 : Nat) (x1 : Int32) (k : Int64 → Int64 → St (Int32)) : Nat → Int64 → Int64 → Int32 → St (Int32)
  | 0 => fun _ _ _ => fl
  | n + 1 => fun x2 x4 x6 => b_X8_meanReference_8 x0 x1 (l_X8_meanReference_8 x0 x1 k n) k x2 x4 x6
def F_X8_meanReference (o : Nat) (x1 : Int32) : St (Int32) :=
  l_X8_meanReference_8 o x1 (fun (e14 : Int64) (e15 : Int64) => bd (F_X10_rounded e14 e15) fun c16 => rt c16.toInt32) FU (0 : Int64) (0 : Int64) (0 : Int32)
set_option maxHeartbeats 4000000 in
set_option maxRecDepth 100000 in
theorem w_X8_meanReference_61 {l : Launch} {D : va_G} {cy : Nat → ClassId} {z : Nat} {p : Program} {e : Env} {R : Room} {s : State} {m : MethodId} {args : Array Value} {below : List Frame} {meth : Method} {c : Code} {ws0 wsf : WS} {rr : Int32} (cx : Cx D cy z RX8 cX8_meanReference 7 (some .int) 2 68 "meanReference" p R s m meth c) (hE : AC ws0 wsf R.cells R.slots) (rec : Int64 → Int64 → Int32 → St (Int32)) (k : Int64 → Int64 → St (Int32)) (x0 : Nat) (x1 : Int32) (hrec : ∀ (x2 : Int64) (x4 : Int64) (x6 : Int32), At_ l D cy z p e R s m args below meth c ws0 wsf vI rr 7 8 [(0, .ref x0), (1, .int x1), (2, .long x2), (4, .long x4), (6, .int x6)] [] (rec x2 x4 x6)) (hkk : ∀ (x2 : Int64) (x4 : Int64), At_ l D cy z p e R s m args below meth c ws0 wsf vI rr 7 67 [(2, .long x2), (4, .long x4)] [] (k x2 x4)) (x2 : Int64) (x4 : Int64) (x6 : Int32) : At_ l D cy z p e R s m args below meth c ws0 wsf vI rr 7 61 [(0, .ref x0), (1, .int x1), (2, .long x2), (4, .long x4), (6, .int x6)] [] (j_X8_meanReference_61 rec k x0 x1 x2 x4 x6) := by
  intro ws H locs cells slots ls hl hH hF
  obtain ⟨hx, hb, hr, hml, hown, hk, hz, hlocks, hnm, hfr, hlo⟩ := id cx
  unfold j_X8_meanReference_61 at hF
  refine lv_iinc (v := (x6 + (1 : Int32))) (lv' := [(6, .int (x6 + (1 : Int32))), (0, .ref x0), (1, .int x1), (2, .long x2), (4, .long x4)]) hx hb dX8_meanReference_61 hl (k := 4) rfl (by first | rfl | (congr 1)) (by decide) (by first | rfl | simp [m_cat, m_ci, m_cl, m_cf, m_cd, m_cr]) (fun ls hl => ?_)
  refine lv_goto (tgt := 8) hx hb dX8_meanReference_64 (by decide) ?_
  exact hrec _ _ _ _ _ _ _ _ _ (lv_sub hl [1, 2, 3, 4, 0] rfl) hH hF
set_option maxHeartbeats 4000000 in
set_option maxRecDepth 100000 in
theorem wb_X8_meanReference_8 {l : Launch} {D : va_G} {cy : Nat → ClassId} {z : Nat} {p : Program} {e : Env} {R : Room} {s : State} {m : MethodId} {args : Array Value} {below : List Frame} {meth : Method} {c : Code} {ws0 wsf : WS} {rr : Int32} (cx : Cx D cy z RX8 cX8_meanReference 7 (some .int) 2 68 "meanReference" p R s m meth c) (hE : AC ws0 wsf R.cells R.slots) (x0 : Nat) (x1 : Int32) (rec : Int64 → Int64 → Int32 → St (Int32)) (k : Int64 → Int64 → St (Int32)) (hrec : ∀ (x2 : Int64) (x4 : Int64) (x6 : Int32), At_ l D cy z p e R s m args below meth c ws0 wsf vI rr 7 8 [(0, .ref x0), (1, .int x1), (2, .long x2), (4, .long x4), (6, .int x6)] [] (rec x2 x4 x6)) (hkk : ∀ (x2 : Int64) (x4 : Int64), At_ l D cy z p e R s m args below meth c ws0 wsf vI rr 7 67 [(2, .long x2), (4, .long x4)] [] (k x2 x4)) (x2 : Int64) (x4 : Int64) (x6 : Int32) : At_ l D cy z p e R s m args below meth c ws0 wsf vI rr 7 8 [(0, .ref x0), (1, .int x1), (2, .long x2), (4, .long x4), (6, .int x6)] [] (b_X8_meanReference_8 x0 x1 rec k x2 x4 x6) := by
  intro ws H locs cells slots ls hl hH hF
  obtain ⟨hx, hb, hr, hml, hown, hk, hz, hlocks, hnm, hfr, hlo⟩ := id cx
  unfold b_X8_meanReference_8 at hF
  refine lv_iload hx hb dX8_meanReference_8 (lv_at hl 4 rfl) ?_
  refine lv_aload_n hx hb dX8_meanReference_10 rfl (lv_at hl 0 rfl) ?_
  refine m_gI hx hb hown hk hH hF fk_RX8_size lk_RX8_21 dX8_meanReference_11 (fun v1 hF => ?_)
  refine lv_icmp_ge (tgt := 67) hx hb dX8_meanReference_14 (by decide) (fun hc1 => ?_) (fun hc1 => ?_)
  · have hF := bq_t hc1 hF
    exact hkk _ _ _ _ _ _ _ _ (lv_sub hl [2, 3] rfl) hH hF
  · have hF := bq_f hc1 hF
    refine lv_aload_n hx hb dX8_meanReference_17 rfl (lv_at hl 0 rfl) ?_
    refine m_gR hx hb hown hk hH hF fk_RX8_counts lk_RX8_9 dX8_meanReference_18 (fun v3 hF => ?_)
    refine lv_iload hx hb dX8_meanReference_21 (lv_at hl 4 rfl) ?_
    refine m_aI0 hx hb hk hH hF dX8_meanReference_23 (fun v4 hF => ?_)
    refine lv_iload_n hx hb dX8_meanReference_24 rfl (lv_at hl 1 rfl) ?_
    refine lv_icmp_ne (tgt := 61) hx hb dX8_meanReference_25 (by decide) (fun hc4 => ?_) (fun hc4 => ?_)
    · have hF := bq_f hc4 hF
      exact w_X8_meanReference_61 cx hE _ _ x0 x1 hrec hkk x2 x4 x6 _ _ _ _ _ _ (lv_sub hl [0, 1, 2, 3, 4] rfl) hH hF
    · have hF := bq_t hc4 hF
      refine lv_lload_n hx hb dX8_meanReference_28 rfl (lv_at hl 2 rfl) ?_
      refine lv_aload_n hx hb dX8_meanReference_29 rfl (lv_at hl 0 rfl) ?_
      refine m_gR hx hb hown hk hH hF fk_RX8_weights lk_RX8_18 dX8_meanReference_30 (fun v6 hF => ?_)
      refine lv_iload hx hb dX8_meanReference_33 (lv_at hl 4 rfl) ?_
      refine m_aI0 hx hb hk hH hF dX8_meanReference_35 (fun v7 hF => ?_)
      refine lv_i2l hx hb dX8_meanReference_36 rfl ?_
      refine lv_aload_n hx hb dX8_meanReference_37 rfl (lv_at hl 0 rfl) ?_
      refine m_gR hx hb hown hk hH hF fk_RX8_references lk_RX8_15 dX8_meanReference_38 (fun v8 hF => ?_)
      refine lv_iload hx hb dX8_meanReference_41 (lv_at hl 4 rfl) ?_
      refine m_aI0 hx hb hk hH hF dX8_meanReference_43 (fun v9 hF => ?_)
      refine lv_i2l hx hb dX8_meanReference_44 rfl ?_
      refine lv_lmul hx hb dX8_meanReference_45 ?_
      refine lv_ladd hx hb dX8_meanReference_46 ?_
      refine lv_topl (fun v10 hv10 => ?_)
      have hF := rt_t hv10 hF
      refine lv_lstore_n (lv' := [(2, .long v10), (0, .ref x0), (1, .int x1), (4, .long x4), (6, .int x6)]) hx hb dX8_meanReference_47 rfl hl (by decide) (by first | rfl | simp [m_cat, m_ci, m_cl, m_cf, m_cd, m_cr]) (fun ls hl => ?_)
      refine lv_lload hx hb dX8_meanReference_48 (lv_at hl 3 rfl) ?_
      refine lv_aload_n hx hb dX8_meanReference_50 rfl (lv_at hl 1 rfl) ?_
      refine m_gR hx hb hown hk hH hF fk_RX8_weights lk_RX8_18 dX8_meanReference_51 (fun v11 hF => ?_)
      refine lv_iload hx hb dX8_meanReference_54 (lv_at hl 4 rfl) ?_
      refine m_aI0 hx hb hk hH hF dX8_meanReference_56 (fun v12 hF => ?_)
      refine lv_i2l hx hb dX8_meanReference_57 rfl ?_
      refine lv_ladd hx hb dX8_meanReference_58 ?_
      refine lv_topl (fun v13 hv13 => ?_)
      have hF := rt_t hv13 hF
      refine lv_lstore (lv' := [(4, .long v13), (2, .long v10), (0, .ref x0), (1, .int x1), (6, .int x6)]) hx hb dX8_meanReference_59 hl (by decide) (by first | rfl | simp [m_cat, m_ci, m_cl, m_cf, m_cd, m_cr]) (fun ls hl => ?_)
      exact w_X8_meanReference_61 cx hE _ _ x0 x1 hrec hkk v10 v13 x6 _ _ _ _ _ _ (lv_sub hl [2, 3, 1, 0, 4] rfl) hH hF
theorem w_X8_meanReference_8 {l : Launch} {D : va_G} {cy : Nat → ClassId} {z : Nat} {p : Program} {e : Env} {R : Room} {s : State} {m : MethodId} {args : Array Value} {below : List Frame} {meth : Method} {c : Code} {ws0 wsf : WS} {rr : Int32} (cx : Cx D cy z RX8 cX8_meanReference 7 (some .int) 2 68 "meanReference" p R s m meth c) (hE : AC ws0 wsf R.cells R.slots) (x0 : Nat) (x1 : Int32) (k : Int64 → Int64 → St (Int32)) (hkk : ∀ (x2 : Int64) (x4 : Int64), At_ l D cy z p e R s m args below meth c ws0 wsf vI rr 7 67 [(2, .long x2), (4, .long x4)] [] (k x2 x4)) : ∀ (n : Nat) (x2 : Int64) (x4 : Int64) (x6 : Int32), At_ l D cy z p e R s m args below meth c ws0 wsf vI rr 7 8 [(0, .ref x0), (1, .int x1), (2, .long x2), (4, .long x4), (6, .int x6)] [] (l_X8_meanReference_8 x0 x1 k n x2 x4 x6) := by
  intro n
  induction n with
  | zero =>
    intro x2 x4 x6 ws H locs cells slots ls hl hH hF
    exact fl_t hF
  | succ n ih =>
    intro x2 x4 x6
    exact wb_X8_meanReference_8 cx hE x0 x1 (l_X8_meanReference_8 x0 x1 k n) k ih hkk x2 x4 x6
set_option maxHeartbeats 4000000 in
set_option maxRecDepth 100000 in
theorem t_X8_meanReference (l : Launch) (D : va_G) (cy : Nat → ClassId) (z : Nat) (o : Nat) (x1 : Int32) : MT l D cy z yX8_meanReference cX8_meanReference 7 (some .int) 2 68 (F_X8_meanReference o x1) vI [.ref o, .int x1] := by
  refine m_enter [(0, .ref o), (1, .int x1)] (by decide) (by first | rfl | simp [lv_args, m_cat, m_ci, m_cl, m_cf, m_cd, m_cr]) (by first | exact Nat.le_of_ble_eq_true rfl | simp [lg_sl, m_cat, m_ci, m_cl, m_cf, m_cd, m_cr]) ?_
  intro p e R s m args below meth c ws0 wsf rr cx hE ws H locs cells slots ls hl hH hF
  obtain ⟨hx, hb, hr, hml, hown, hk, hz, hlocks, hnm, hfr, hlo⟩ := id cx
  unfold F_X8_meanReference at hF
  refine lv_lconst (v := (0)) hx hb dX8_meanReference_0 (by decide) ?_
  refine lv_lstore_n (lv' := [(2, .long (0 : Int64)), (0, .ref o), (1, .int x1)]) hx hb dX8_meanReference_1 rfl hl (by decide) (by first | rfl | simp [m_cat, m_ci, m_cl, m_cf, m_cd, m_cr]) (fun ls hl => ?_)
  refine lv_lconst (v := (0)) hx hb dX8_meanReference_2 (by decide) ?_
  refine lv_lstore (lv' := [(4, .long (0 : Int64)), (2, .long (0 : Int64)), (0, .ref o), (1, .int x1)]) hx hb dX8_meanReference_3 hl (by decide) (by first | rfl | simp [m_cat, m_ci, m_cl, m_cf, m_cd, m_cr]) (fun ls hl => ?_)
  refine lv_iconst (v := (0)) hx hb dX8_meanReference_5 (by decide) ?_
  refine lv_istore (lv' := [(6, .int (0 : Int32)), (4, .long (0 : Int64)), (2, .long (0 : Int64)), (0, .ref o), (1, .int x1)]) hx hb dX8_meanReference_6 hl (by decide) (by first | rfl | simp [m_cat, m_ci, m_cl, m_cf, m_cd, m_cr]) (fun ls hl => ?_)
  refine w_X8_meanReference_8 cx hE o x1 _ (fun e14 e15 ws H locs cells slots ls hl hH hF => ?_) _ _ _ _ _ _ _ _ _ _ (lv_sub hl [3, 4, 2, 1, 0] rfl) hH hF
  refine lv_lload_n hx hb dX8_meanReference_67 rfl (lv_at hl 0 rfl) ?_
  refine lv_lload hx hb dX8_meanReference_68 (lv_at hl 1 rfl) ?_
  refine m_cSNL hx hb hml hown hk hH hE.le hz (As := [.long e14, .long e15]) (rest := []) (t_X10_rounded l D cy z e14 e15) hF ⟨_, wd_327⟩ wd_328 wd_33 wd_329 yn_X10_rounded ⟨Nat.le_trans (by decide) hfr, Nat.le_trans (by decide) hlo⟩ hl.1 (by first | exact Nat.le_of_ble_eq_true rfl | simp [m_cat, m_ci, m_cl, m_cf, m_cd, m_cr]) rfl dX8_meanReference_70 (fun c16 ws H locs cells slots hH hF => ?_)
  refine lv_l2i hx hb dX8_meanReference_73 rfl ?_
  exact m_iret hx hb hr hlocks hH hE hF rfl dX8_meanReference_74

def b_X8_tellMeans_4 (x0 : Nat) (x1 : Option Nat) (rec : Int32 → Int32 → St (Unit)) (k : St (Unit)) (x2 : Int32) (x3 : Int32) : St (Unit) :=
  bd (gI [7] 3 (some x0)) fun v1 => br (v1 ≤ x3) (k) (bd (dr [7] (some x0)) fun q4 => bd (F_X8_leastCountAbove q4.1 x2) fun c3 => br (c3 ≤ (4095 : Int32)) (bd (dr [7] (some x0)) fun q7 => bd (F_X8_meanReference q7.1 c3) fun c6 => bd (dr [2] x1) fun q9 => bd (F_X3_add q9.1 c3 c6) fun c8 => rec c3 (x3 + (1 : Int32))) (rt ()))
def l_X8_tellMeans_4 (x0 : Nat) (x1 : Option Nat) (k : St (Unit)) : Nat → Int32 → Int32 → St (Unit)
  | 0 => fun _ _ => fl
  | n + 1 => fun x2 x3 => b_X8_tellMeans_4 x0 x1 (l_X8_tellMeans_4 x0 x1 k n) k x2 x3
def F_X8_tellMeans (o : Nat) (x1 : Option Nat) : St (Unit) :=
  l_X8_tellMeans_4 o x1 (rt ()) FU (-1 : Int32) (0 : Int32)
set_option maxHeartbeats 4000000 in
set_option maxRecDepth 100000 in
theorem wb_X8_tellMeans_4 {l : Launch} {D : va_G} {cy : Nat → ClassId} {z : Nat} {p : Program} {e : Env} {R : Room} {s : State} {m : MethodId} {args : Array Value} {below : List Frame} {meth : Method} {c : Code} {ws0 wsf : WS} {rr : Unit} (cx : Cx D cy z RX8 cX8_tellMeans 5 none 3 94 "tellMeans" p R s m meth c) (hE : AC ws0 wsf R.cells R.slots) (x0 : Nat) (x1 : Option Nat) (rec : Int32 → Int32 → St (Unit)) (k : St (Unit)) (hrec : ∀ (x2 : Int32) (x3 : Int32), At_ l D cy z p e R s m args below meth c ws0 wsf vU rr 5 4 [(0, .ref x0), (1, va_rf x1), (2, .int x2), (3, .int x3)] [] (rec x2 x3)) (hkk : At_ l D cy z p e R s m args below meth c ws0 wsf vU rr 5 49 [] [] (k)) (x2 : Int32) (x3 : Int32) : At_ l D cy z p e R s m args below meth c ws0 wsf vU rr 5 4 [(0, .ref x0), (1, va_rf x1), (2, .int x2), (3, .int x3)] [] (b_X8_tellMeans_4 x0 x1 rec k x2 x3) := by
  intro ws H locs cells slots ls hl hH hF
  obtain ⟨hx, hb, hr, hml, hown, hk, hz, hlocks, hnm, hfr, hlo⟩ := id cx
  unfold b_X8_tellMeans_4 at hF
  refine lv_iload_n hx hb dX8_tellMeans_4 rfl (lv_at hl 3 rfl) ?_
  refine lv_aload_n hx hb dX8_tellMeans_5 rfl (lv_at hl 0 rfl) ?_
  refine m_gI hx hb hown hk hH hF fk_RX8_size lk_RX8_21 dX8_tellMeans_6 (fun v1 hF => ?_)
  refine lv_icmp_ge (tgt := 49) hx hb dX8_tellMeans_9 (by decide) (fun hc1 => ?_) (fun hc1 => ?_)
  · have hF := bq_t hc1 hF
    exact hkk _ _ _ _ _ _ (lv_sub hl [] rfl) hH hF
  · have hF := bq_f hc1 hF
    refine lv_aload_n hx hb dX8_tellMeans_12 rfl (lv_at hl 0 rfl) ?_
    refine lv_iload_n hx hb dX8_tellMeans_13 rfl (lv_at hl 2 rfl) ?_
    refine m_cVI hx hb hml hown hk hH hE.le hz (F := fun q4 => F_X8_leastCountAbove q4.1 x2) (C := RX8) (T := TX8) (N := 4) rfl (As := [.int x2]) (rest := []) (fun o => t_X8_leastCountAbove l D cy z o x2) hF wd_319 wd_321 wd_36 wd_322 wd_3 yn_X8_leastCountAbove ⟨Nat.le_trans (by decide) hfr, Nat.le_trans (by decide) hlo⟩ hl.1 (by first | exact Nat.le_of_ble_eq_true rfl | simp [m_cat, m_ci, m_cl, m_cf, m_cd, m_cr]) rfl dX8_tellMeans_14 (fun c3 ws H locs cells slots hH hF => ?_)
    refine lv_istore (lv' := [(4, .int c3), (0, .ref x0), (1, va_rf x1), (2, .int x2), (3, .int x3)]) hx hb dX8_tellMeans_17 hl (by decide) (by first | rfl | simp [m_cat, m_ci, m_cl, m_cf, m_cd, m_cr]) (fun ls hl => ?_)
    refine lv_iload hx hb dX8_tellMeans_19 (lv_at hl 0 rfl) ?_
    refine lv_sipush (v := (4095)) hx hb dX8_tellMeans_21 (by decide) ?_
    refine lv_icmp_le (tgt := 28) hx hb dX8_tellMeans_24 (by decide) (fun hc4 => ?_) (fun hc4 => ?_)
    · have hF := bq_t hc4 hF
      refine m_aload_n hx hb dX8_tellMeans_28 rfl (lv_at hl 2 rfl) ?_
      refine lv_iload hx hb dX8_tellMeans_29 (lv_at hl 0 rfl) ?_
      refine lv_aload_n hx hb dX8_tellMeans_31 rfl (lv_at hl 1 rfl) ?_
      refine lv_iload hx hb dX8_tellMeans_32 (lv_at hl 0 rfl) ?_
      refine m_cVI hx hb hml hown hk hH hE.le hz (F := fun q7 => F_X8_meanReference q7.1 c3) (C := RX8) (T := TX8) (N := 4) rfl (As := [.int c3]) (rest := [.int c3, va_rf x1]) (fun o => t_X8_meanReference l D cy z o c3) hF wd_323 wd_325 wd_36 wd_326 wd_4 yn_X8_meanReference ⟨Nat.le_trans (by decide) hfr, Nat.le_trans (by decide) hlo⟩ hl.1 (by first | exact Nat.le_of_ble_eq_true rfl | simp [m_cat, m_ci, m_cl, m_cf, m_cd, m_cr]) rfl dX8_tellMeans_34 (fun c6 ws H locs cells slots hH hF => ?_)
      refine m_cVU hx hb hml hown hk hH hE.le hz (F := fun q9 => F_X3_add q9.1 c3 c6) (C := RX3) (T := TX3) (N := 3) rfl (As := [.int c3, .int c6]) (rest := []) (fun o => t_X3_add l D cy z o c3 c6) hF wd_334 wd_286 wd_35 wd_288 wd_287 yn_X3_add ⟨Nat.le_trans (by decide) hfr, Nat.le_trans (by decide) hlo⟩ hl.1 (by first | exact Nat.le_of_ble_eq_true rfl | simp [m_cat, m_ci, m_cl, m_cf, m_cd, m_cr]) rfl dX8_tellMeans_37 (fun c8 ws H locs cells slots hH hF => ?_)
      refine lv_iload hx hb dX8_tellMeans_40 (lv_at hl 0 rfl) ?_
      refine lv_istore_n (lv' := [(2, .int c3), (4, .int c3), (0, .ref x0), (1, va_rf x1), (3, .int x3)]) hx hb dX8_tellMeans_42 rfl hl (by decide) (by first | rfl | simp [m_cat, m_ci, m_cl, m_cf, m_cd, m_cr]) (fun ls hl => ?_)
      refine lv_iinc (v := (x3 + (1 : Int32))) (lv' := [(3, .int (x3 + (1 : Int32))), (2, .int c3), (4, .int c3), (0, .ref x0), (1, va_rf x1)]) hx hb dX8_tellMeans_43 hl (k := 4) rfl (by first | rfl | (congr 1)) (by decide) (by first | rfl | simp [m_cat, m_ci, m_cl, m_cf, m_cd, m_cr]) (fun ls hl => ?_)
      refine lv_goto (tgt := 4) hx hb dX8_tellMeans_46 (by decide) ?_
      exact hrec _ _ _ _ _ _ _ _ (lv_sub hl [3, 4, 1, 0] rfl) hH hF
    · have hF := bq_f hc4 hF
      exact m_vret hx hb hr hlocks hH hE hF dX8_tellMeans_27
theorem w_X8_tellMeans_4 {l : Launch} {D : va_G} {cy : Nat → ClassId} {z : Nat} {p : Program} {e : Env} {R : Room} {s : State} {m : MethodId} {args : Array Value} {below : List Frame} {meth : Method} {c : Code} {ws0 wsf : WS} {rr : Unit} (cx : Cx D cy z RX8 cX8_tellMeans 5 none 3 94 "tellMeans" p R s m meth c) (hE : AC ws0 wsf R.cells R.slots) (x0 : Nat) (x1 : Option Nat) (k : St (Unit)) (hkk : At_ l D cy z p e R s m args below meth c ws0 wsf vU rr 5 49 [] [] (k)) : ∀ (n : Nat) (x2 : Int32) (x3 : Int32), At_ l D cy z p e R s m args below meth c ws0 wsf vU rr 5 4 [(0, .ref x0), (1, va_rf x1), (2, .int x2), (3, .int x3)] [] (l_X8_tellMeans_4 x0 x1 k n x2 x3) := by
  intro n
  induction n with
  | zero =>
    intro x2 x3 ws H locs cells slots ls hl hH hF
    exact fl_t hF
  | succ n ih =>
    intro x2 x3
    exact wb_X8_tellMeans_4 cx hE x0 x1 (l_X8_tellMeans_4 x0 x1 k n) k ih hkk x2 x3
set_option maxHeartbeats 4000000 in
set_option maxRecDepth 100000 in
theorem t_X8_tellMeans (l : Launch) (D : va_G) (cy : Nat → ClassId) (z : Nat) (o : Nat) (x1 : Option Nat) : MT l D cy z yX8_tellMeans cX8_tellMeans 5 none 3 94 (F_X8_tellMeans o x1) vU [.ref o, va_rf x1] := by
  refine m_enter [(0, .ref o), (1, va_rf x1)] (by decide) (by first | rfl | simp [lv_args, m_cat, m_ci, m_cl, m_cf, m_cd, m_cr]) (by first | exact Nat.le_of_ble_eq_true rfl | simp [lg_sl, m_cat, m_ci, m_cl, m_cf, m_cd, m_cr]) ?_
  intro p e R s m args below meth c ws0 wsf rr cx hE ws H locs cells slots ls hl hH hF
  obtain ⟨hx, hb, hr, hml, hown, hk, hz, hlocks, hnm, hfr, hlo⟩ := id cx
  unfold F_X8_tellMeans at hF
  refine lv_iconst (v := (-1)) hx hb dX8_tellMeans_0 (by decide) ?_
  refine lv_istore_n (lv' := [(2, .int (-1 : Int32)), (0, .ref o), (1, va_rf x1)]) hx hb dX8_tellMeans_1 rfl hl (by decide) (by first | rfl | simp [m_cat, m_ci, m_cl, m_cf, m_cd, m_cr]) (fun ls hl => ?_)
  refine lv_iconst (v := (0)) hx hb dX8_tellMeans_2 (by decide) ?_
  refine lv_istore_n (lv' := [(3, .int (0 : Int32)), (2, .int (-1 : Int32)), (0, .ref o), (1, va_rf x1)]) hx hb dX8_tellMeans_3 rfl hl (by decide) (by first | rfl | simp [m_cat, m_ci, m_cl, m_cf, m_cd, m_cr]) (fun ls hl => ?_)
  refine w_X8_tellMeans_4 cx hE o x1 _ (fun ws H locs cells slots ls hl hH hF => ?_) _ _ _ _ _ _ _ _ _ (lv_sub hl [2, 3, 1, 0] rfl) hH hF
  exact m_vret hx hb hr hlocks hH hE hF dX8_tellMeans_49

def F_X8_missedBy (o : Nat) (x1 : Option Nat) (x2 : Int32) : St (Int32) :=
  bd (gR [7] 1 (some o)) fun v1 => bd (aI 0 v1 x2) fun v2 => bd (gR [7] 0 (some o)) fun v3 => bd (aI 0 v3 x2) fun v4 => bd (dr [3, 4, 6] x1) fun q6 => bd (F_X1_at 64 q6.1 v4) fun c5 => rt (v2 - c5)
set_option maxHeartbeats 4000000 in
set_option maxRecDepth 100000 in
theorem t_X8_missedBy (l : Launch) (D : va_G) (cy : Nat → ClassId) (z : Nat) (o : Nat) (x1 : Option Nat) (x2 : Int32) : MT l D cy z yX8_missedBy cX8_missedBy 3 (some .int) 326 9921 (F_X8_missedBy o x1 x2) vI [.ref o, va_rf x1, .int x2] := by
  refine m_enter [(0, .ref o), (1, va_rf x1), (2, .int x2)] (by decide) (by first | rfl | simp [lv_args, m_cat, m_ci, m_cl, m_cf, m_cd, m_cr]) (by first | exact Nat.le_of_ble_eq_true rfl | simp [lg_sl, m_cat, m_ci, m_cl, m_cf, m_cd, m_cr]) ?_
  intro p e R s m args below meth c ws0 wsf rr cx hE ws H locs cells slots ls hl hH hF
  obtain ⟨hx, hb, hr, hml, hown, hk, hz, hlocks, hnm, hfr, hlo⟩ := id cx
  unfold F_X8_missedBy at hF
  refine lv_aload_n hx hb dX8_missedBy_0 rfl (lv_at hl 0 rfl) ?_
  refine m_gR hx hb hown hk hH hF fk_RX8_references lk_RX8_15 dX8_missedBy_1 (fun v1 hF => ?_)
  refine lv_iload_n hx hb dX8_missedBy_4 rfl (lv_at hl 2 rfl) ?_
  refine m_aI0 hx hb hk hH hF dX8_missedBy_5 (fun v2 hF => ?_)
  refine m_aload_n hx hb dX8_missedBy_6 rfl (lv_at hl 1 rfl) ?_
  refine lv_aload_n hx hb dX8_missedBy_7 rfl (lv_at hl 0 rfl) ?_
  refine m_gR hx hb hown hk hH hF fk_RX8_counts lk_RX8_9 dX8_missedBy_8 (fun v3 hF => ?_)
  refine lv_iload_n hx hb dX8_missedBy_11 rfl (lv_at hl 2 rfl) ?_
  refine m_aI0 hx hb hk hH hF dX8_missedBy_12 (fun v4 hF => ?_)
  refine m_cUI hx hb hml hown hk hH hE.le hz (x := yX1_at) (owner := "CurveFoundry$Curve") (y := (fun _ => yX1_at)) (bytes := (fun _ => cX1_at)) (maxL := (fun _ => 2)) (fr := (fun _ => 325)) (lo := (fun _ => 9900)) (F := fun q6 => F_X1_at 64 q6.1 v4) (As := [.int v4]) (rest := [.int v2]) (fun o => m_c3 (t_X1_at l D cy z 64 o v4) (t_X1_at l D cy z 64 o v4) (t_X1_at l D cy z 64 o v4)) hF wd_545 wd_399 (va_Decl.of (hk.wd wd_398 args) (hk.wd wd_403 args)) (m_c3 ⟨_, rfl, wd_400, wd_398, wd_39, wd_403, Nat.le_trans (by decide) hfr, Nat.le_trans (by decide) hlo⟩ ⟨_, rfl, wd_401, wd_398, wd_39, wd_403, Nat.le_trans (by decide) hfr, Nat.le_trans (by decide) hlo⟩ ⟨_, rfl, wd_402, wd_398, wd_39, wd_403, Nat.le_trans (by decide) hfr, Nat.le_trans (by decide) hlo⟩) yc_at hl.1 (by first | exact Nat.le_of_ble_eq_true rfl | simp [m_cat, m_ci, m_cl, m_cf, m_cd, m_cr]) rfl dX8_missedBy_13 (fun c5 ws H locs cells slots hH hF => ?_)
  refine lv_isub hx hb dX8_missedBy_16 ?_
  exact m_iret hx hb hr hlocks hH hE hF rfl dX8_missedBy_17

def j_X8_farthestFrom_40 (rec : Int32 → Int32 → Int32 → St (Int32)) (k : Int32 → St (Int32)) (x0 : Nat) (x1 : Option Nat) (x2 : Int32) (x3 : Int32) (x4 : Int32) : St (Int32) :=
  rec x2 x3 (x4 + (1 : Int32))
def b_X8_farthestFrom_7 (x0 : Nat) (x1 : Option Nat) (rec : Int32 → Int32 → Int32 → St (Int32)) (k : Int32 → St (Int32)) (x2 : Int32) (x3 : Int32) (x4 : Int32) : St (Int32) :=
  bd (gI [7] 3 (some x0)) fun v1 => br (v1 ≤ x4) (k x2) (bd (dr [7] (some x0)) fun q4 => bd (F_X8_missedBy q4.1 x1 x4) fun c3 => bd (rt (if 0 ≤ c3 then c3 else 0 - c3)) fun v5 => br (v5 ≤ x3) (j_X8_farthestFrom_40 rec k x0 x1 x2 x3 x4) (j_X8_farthestFrom_40 rec k x0 x1 x4 v5 x4))
def l_X8_farthestFrom_7 (x0 : Nat) (x1 : Option Nat) (k : Int32 → St (Int32)) : Nat → Int32 → Int32 → Int32 → St (Int32)
  | 0 => fun _ _ _ => fl
  | n + 1 => fun x2 x3 x4 => b_X8_farthestFrom_7 x0 x1 (l_X8_farthestFrom_7 x0 x1 k n) k x2 x3 x4
def F_X8_farthestFrom (o : Nat) (x1 : Option Nat) : St (Int32) :=
  l_X8_farthestFrom_7 o x1 (fun (e7 : Int32) => rt e7) FU (-1 : Int32) (-1 : Int32) (0 : Int32)
set_option maxHeartbeats 4000000 in
set_option maxRecDepth 100000 in
theorem w_X8_farthestFrom_40 {l : Launch} {D : va_G} {cy : Nat → ClassId} {z : Nat} {p : Program} {e : Env} {R : Room} {s : State} {m : MethodId} {args : Array Value} {below : List Frame} {meth : Method} {c : Code} {ws0 wsf : WS} {rr : Int32} (cx : Cx D cy z RX8 cX8_farthestFrom 6 (some .int) 327 9943 "farthestFrom" p R s m meth c) (hE : AC ws0 wsf R.cells R.slots) (rec : Int32 → Int32 → Int32 → St (Int32)) (k : Int32 → St (Int32)) (x0 : Nat) (x1 : Option Nat) (hrec : ∀ (x2 : Int32) (x3 : Int32) (x4 : Int32), At_ l D cy z p e R s m args below meth c ws0 wsf vI rr 6 7 [(0, .ref x0), (1, va_rf x1), (2, .int x2), (3, .int x3), (4, .int x4)] [] (rec x2 x3 x4)) (hkk : ∀ (x2 : Int32), At_ l D cy z p e R s m args below meth c ws0 wsf vI rr 6 46 [(2, .int x2)] [] (k x2)) (x2 : Int32) (x3 : Int32) (x4 : Int32) : At_ l D cy z p e R s m args below meth c ws0 wsf vI rr 6 40 [(0, .ref x0), (1, va_rf x1), (2, .int x2), (3, .int x3), (4, .int x4)] [] (j_X8_farthestFrom_40 rec k x0 x1 x2 x3 x4) := by
  intro ws H locs cells slots ls hl hH hF
  obtain ⟨hx, hb, hr, hml, hown, hk, hz, hlocks, hnm, hfr, hlo⟩ := id cx
  unfold j_X8_farthestFrom_40 at hF
  refine lv_iinc (v := (x4 + (1 : Int32))) (lv' := [(4, .int (x4 + (1 : Int32))), (0, .ref x0), (1, va_rf x1), (2, .int x2), (3, .int x3)]) hx hb dX8_farthestFrom_40 hl (k := 4) rfl (by first | rfl | (congr 1)) (by decide) (by first | rfl | simp [m_cat, m_ci, m_cl, m_cf, m_cd, m_cr]) (fun ls hl => ?_)
  refine lv_goto (tgt := 7) hx hb dX8_farthestFrom_43 (by decide) ?_
  exact hrec _ _ _ _ _ _ _ _ _ (lv_sub hl [1, 2, 3, 4, 0] rfl) hH hF
set_option maxHeartbeats 4000000 in
set_option maxRecDepth 100000 in
theorem wb_X8_farthestFrom_7 {l : Launch} {D : va_G} {cy : Nat → ClassId} {z : Nat} {p : Program} {e : Env} {R : Room} {s : State} {m : MethodId} {args : Array Value} {below : List Frame} {meth : Method} {c : Code} {ws0 wsf : WS} {rr : Int32} (cx : Cx D cy z RX8 cX8_farthestFrom 6 (some .int) 327 9943 "farthestFrom" p R s m meth c) (hE : AC ws0 wsf R.cells R.slots) (x0 : Nat) (x1 : Option Nat) (rec : Int32 → Int32 → Int32 → St (Int32)) (k : Int32 → St (Int32)) (hrec : ∀ (x2 : Int32) (x3 : Int32) (x4 : Int32), At_ l D cy z p e R s m args below meth c ws0 wsf vI rr 6 7 [(0, .ref x0), (1, va_rf x1), (2, .int x2), (3, .int x3), (4, .int x4)] [] (rec x2 x3 x4)) (hkk : ∀ (x2 : Int32), At_ l D cy z p e R s m args below meth c ws0 wsf vI rr 6 46 [(2, .int x2)] [] (k x2)) (x2 : Int32) (x3 : Int32) (x4 : Int32) : At_ l D cy z p e R s m args below meth c ws0 wsf vI rr 6 7 [(0, .ref x0), (1, va_rf x1), (2, .int x2), (3, .int x3), (4, .int x4)] [] (b_X8_farthestFrom_7 x0 x1 rec k x2 x3 x4) := by
  intro ws H locs cells slots ls hl hH hF
  obtain ⟨hx, hb, hr, hml, hown, hk, hz, hlocks, hnm, hfr, hlo⟩ := id cx
  unfold b_X8_farthestFrom_7 at hF
  refine lv_iload hx hb dX8_farthestFrom_7 (lv_at hl 4 rfl) ?_
  refine lv_aload_n hx hb dX8_farthestFrom_9 rfl (lv_at hl 0 rfl) ?_
  refine m_gI hx hb hown hk hH hF fk_RX8_size lk_RX8_21 dX8_farthestFrom_10 (fun v1 hF => ?_)
  refine lv_icmp_ge (tgt := 46) hx hb dX8_farthestFrom_13 (by decide) (fun hc1 => ?_) (fun hc1 => ?_)
  · have hF := bq_t hc1 hF
    exact hkk _ _ _ _ _ _ _ (lv_sub hl [2] rfl) hH hF
  · have hF := bq_f hc1 hF
    refine lv_aload_n hx hb dX8_farthestFrom_16 rfl (lv_at hl 0 rfl) ?_
    refine m_aload_n hx hb dX8_farthestFrom_17 rfl (lv_at hl 1 rfl) ?_
    refine lv_iload hx hb dX8_farthestFrom_18 (lv_at hl 4 rfl) ?_
    refine m_cVI hx hb hml hown hk hH hE.le hz (F := fun q4 => F_X8_missedBy q4.1 x1 x4) (C := RX8) (T := TX8) (N := 4) rfl (As := [va_rf x1, .int x4]) (rest := []) (fun o => t_X8_missedBy l D cy z o x1 x4) hF wd_554 wd_542 wd_36 wd_544 wd_543 yn_X8_missedBy ⟨Nat.le_trans (by decide) hfr, Nat.le_trans (by decide) hlo⟩ hl.1 (by first | exact Nat.le_of_ble_eq_true rfl | simp [m_cat, m_ci, m_cl, m_cf, m_cd, m_cr]) rfl dX8_farthestFrom_20 (fun c3 ws H locs cells slots hH hF => ?_)
    refine va_mabs hx hb (hml.trans hl.1.symm) hown (hk.wd wd_555 args) (hk.wd wd_556 args) (hk.wd wd_42 args) (hk.wd wd_557 args) (Nat.le_trans (by decide) hfr) (Nat.le_trans (m := 40) (by first | exact Nat.le_of_ble_eq_true rfl | simp [m_cat, m_ci, m_cl, m_cf, m_cd, m_cr]) (Nat.le_trans (by decide) hlo)) (m_cells hH hE.le hF).1 (m_cells hH hE.le hF).2 dX8_farthestFrom_23 ?_
    refine lv_topi (fun v5 hv5 => ?_)
    have hF := rt_t hv5 hF
    refine lv_istore (lv' := [(5, .int v5), (0, .ref x0), (1, va_rf x1), (2, .int x2), (3, .int x3), (4, .int x4)]) hx hb dX8_farthestFrom_26 hl (by decide) (by first | rfl | simp [m_cat, m_ci, m_cl, m_cf, m_cd, m_cr]) (fun ls hl => ?_)
    refine lv_iload hx hb dX8_farthestFrom_28 (lv_at hl 0 rfl) ?_
    refine lv_iload_n hx hb dX8_farthestFrom_30 rfl (lv_at hl 4 rfl) ?_
    refine lv_icmp_le (tgt := 40) hx hb dX8_farthestFrom_31 (by decide) (fun hc5 => ?_) (fun hc5 => ?_)
    · have hF := bq_t hc5 hF
      exact w_X8_farthestFrom_40 cx hE _ _ x0 x1 hrec hkk x2 x3 x4 _ _ _ _ _ _ (lv_sub hl [1, 2, 3, 4, 5] rfl) hH hF
    · have hF := bq_f hc5 hF
      refine lv_iload hx hb dX8_farthestFrom_34 (lv_at hl 0 rfl) ?_
      refine lv_istore_n (lv' := [(3, .int v5), (5, .int v5), (0, .ref x0), (1, va_rf x1), (2, .int x2), (4, .int x4)]) hx hb dX8_farthestFrom_36 rfl hl (by decide) (by first | rfl | simp [m_cat, m_ci, m_cl, m_cf, m_cd, m_cr]) (fun ls hl => ?_)
      refine lv_iload hx hb dX8_farthestFrom_37 (lv_at hl 5 rfl) ?_
      refine lv_istore_n (lv' := [(2, .int x4), (3, .int v5), (5, .int v5), (0, .ref x0), (1, va_rf x1), (4, .int x4)]) hx hb dX8_farthestFrom_39 rfl hl (by decide) (by first | rfl | simp [m_cat, m_ci, m_cl, m_cf, m_cd, m_cr]) (fun ls hl => ?_)
      exact w_X8_farthestFrom_40 cx hE _ _ x0 x1 hrec hkk x4 v5 x4 _ _ _ _ _ _ (lv_sub hl [3, 4, 0, 1, 5] rfl) hH hF
theorem w_X8_farthestFrom_7 {l : Launch} {D : va_G} {cy : Nat → ClassId} {z : Nat} {p : Program} {e : Env} {R : Room} {s : State} {m : MethodId} {args : Array Value} {below : List Frame} {meth : Method} {c : Code} {ws0 wsf : WS} {rr : Int32} (cx : Cx D cy z RX8 cX8_farthestFrom 6 (some .int) 327 9943 "farthestFrom" p R s m meth c) (hE : AC ws0 wsf R.cells R.slots) (x0 : Nat) (x1 : Option Nat) (k : Int32 → St (Int32)) (hkk : ∀ (x2 : Int32), At_ l D cy z p e R s m args below meth c ws0 wsf vI rr 6 46 [(2, .int x2)] [] (k x2)) : ∀ (n : Nat) (x2 : Int32) (x3 : Int32) (x4 : Int32), At_ l D cy z p e R s m args below meth c ws0 wsf vI rr 6 7 [(0, .ref x0), (1, va_rf x1), (2, .int x2), (3, .int x3), (4, .int x4)] [] (l_X8_farthestFrom_7 x0 x1 k n x2 x3 x4) := by
  intro n
  induction n with
  | zero =>
    intro x2 x3 x4 ws H locs cells slots ls hl hH hF
    exact fl_t hF
  | succ n ih =>
    intro x2 x3 x4
    exact wb_X8_farthestFrom_7 cx hE x0 x1 (l_X8_farthestFrom_7 x0 x1 k n) k ih hkk x2 x3 x4
set_option maxHeartbeats 4000000 in
set_option maxRecDepth 100000 in
theorem t_X8_farthestFrom (l : Launch) (D : va_G) (cy : Nat → ClassId) (z : Nat) (o : Nat) (x1 : Option Nat) : MT l D cy z yX8_farthestFrom cX8_farthestFrom 6 (some .int) 327 9943 (F_X8_farthestFrom o x1) vI [.ref o, va_rf x1] := by
  refine m_enter [(0, .ref o), (1, va_rf x1)] (by decide) (by first | rfl | simp [lv_args, m_cat, m_ci, m_cl, m_cf, m_cd, m_cr]) (by first | exact Nat.le_of_ble_eq_true rfl | simp [lg_sl, m_cat, m_ci, m_cl, m_cf, m_cd, m_cr]) ?_
  intro p e R s m args below meth c ws0 wsf rr cx hE ws H locs cells slots ls hl hH hF
  obtain ⟨hx, hb, hr, hml, hown, hk, hz, hlocks, hnm, hfr, hlo⟩ := id cx
  unfold F_X8_farthestFrom at hF
  refine lv_iconst (v := (-1)) hx hb dX8_farthestFrom_0 (by decide) ?_
  refine lv_istore_n (lv' := [(2, .int (-1 : Int32)), (0, .ref o), (1, va_rf x1)]) hx hb dX8_farthestFrom_1 rfl hl (by decide) (by first | rfl | simp [m_cat, m_ci, m_cl, m_cf, m_cd, m_cr]) (fun ls hl => ?_)
  refine lv_iconst (v := (-1)) hx hb dX8_farthestFrom_2 (by decide) ?_
  refine lv_istore_n (lv' := [(3, .int (-1 : Int32)), (2, .int (-1 : Int32)), (0, .ref o), (1, va_rf x1)]) hx hb dX8_farthestFrom_3 rfl hl (by decide) (by first | rfl | simp [m_cat, m_ci, m_cl, m_cf, m_cd, m_cr]) (fun ls hl => ?_)
  refine lv_iconst (v := (0)) hx hb dX8_farthestFrom_4 (by decide) ?_
  refine lv_istore (lv' := [(4, .int (0 : Int32)), (3, .int (-1 : Int32)), (2, .int (-1 : Int32)), (0, .ref o), (1, va_rf x1)]) hx hb dX8_farthestFrom_5 hl (by decide) (by first | rfl | simp [m_cat, m_ci, m_cl, m_cf, m_cd, m_cr]) (fun ls hl => ?_)
  refine w_X8_farthestFrom_7 cx hE o x1 _ (fun e7 ws H locs cells slots ls hl hH hF => ?_) _ _ _ _ _ _ _ _ _ _ (lv_sub hl [3, 4, 2, 1, 0] rfl) hH hF
  refine lv_iload_n hx hb dX8_farthestFrom_46 rfl (lv_at hl 0 rfl) ?_
  exact m_iret hx hb hr hlocks hH hE hF rfl dX8_farthestFrom_47

def b_X8_squaresFrom_5 (x0 : Nat) (x1 : Option Nat) (rec : Int64 → Int32 → St (Int64)) (k : Int64 → St (Int64)) (x2 : Int64) (x4 : Int32) : St (Int64) :=
  bd (gI [7] 3 (some x0)) fun v1 => br (v1 ≤ x4) (k x2) (bd (dr [7] (some x0)) fun q4 => bd (F_X8_missedBy q4.1 x1 x4) fun c3 => bd (gR [7] 2 (some x0)) fun v5 => bd (aI 0 v5 x4) fun v6 => bd (rt (x2 + ((v6.toInt64 * c3.toInt64) * c3.toInt64))) fun v7 => rec v7 (x4 + (1 : Int32)))
def l_X8_squaresFrom_5 (x0 : Nat) (x1 : Option Nat) (k : Int64 → St (Int64)) : Nat → Int64 → Int32 → St (Int64)
  | 0 => fun _ _ => fl
  | n + 1 => fun x2 x4 => b_X8_squaresFrom_5 x0 x1 (l_X8_squaresFrom_5 x0 x1 k n) k x2 x4
def F_X8_squaresFrom (o : Nat) (x1 : Option Nat) : St (Int64) :=
  l_X8_squaresFrom_5 o x1 (fun (e8 : Int64) => rt e8) FU (0 : Int64) (0 : Int32)
set_option maxHeartbeats 4000000 in
set_option maxRecDepth 100000 in
theorem wb_X8_squaresFrom_5 {l : Launch} {D : va_G} {cy : Nat → ClassId} {z : Nat} {p : Program} {e : Env} {R : Room} {s : State} {m : MethodId} {args : Array Value} {below : List Frame} {meth : Method} {c : Code} {ws0 wsf : WS} {rr : Int64} (cx : Cx D cy z RX8 cX8_squaresFrom 7 (some .long) 327 9943 "squaresFrom" p R s m meth c) (hE : AC ws0 wsf R.cells R.slots) (x0 : Nat) (x1 : Option Nat) (rec : Int64 → Int32 → St (Int64)) (k : Int64 → St (Int64)) (hrec : ∀ (x2 : Int64) (x4 : Int32), At_ l D cy z p e R s m args below meth c ws0 wsf vL rr 7 5 [(0, .ref x0), (1, va_rf x1), (2, .long x2), (4, .int x4)] [] (rec x2 x4)) (hkk : ∀ (x2 : Int64), At_ l D cy z p e R s m args below meth c ws0 wsf vL rr 7 47 [(2, .long x2)] [] (k x2)) (x2 : Int64) (x4 : Int32) : At_ l D cy z p e R s m args below meth c ws0 wsf vL rr 7 5 [(0, .ref x0), (1, va_rf x1), (2, .long x2), (4, .int x4)] [] (b_X8_squaresFrom_5 x0 x1 rec k x2 x4) := by
  intro ws H locs cells slots ls hl hH hF
  obtain ⟨hx, hb, hr, hml, hown, hk, hz, hlocks, hnm, hfr, hlo⟩ := id cx
  unfold b_X8_squaresFrom_5 at hF
  refine lv_iload hx hb dX8_squaresFrom_5 (lv_at hl 3 rfl) ?_
  refine lv_aload_n hx hb dX8_squaresFrom_7 rfl (lv_at hl 0 rfl) ?_
  refine m_gI hx hb hown hk hH hF fk_RX8_size lk_RX8_21 dX8_squaresFrom_8 (fun v1 hF => ?_)
  refine lv_icmp_ge (tgt := 47) hx hb dX8_squaresFrom_11 (by decide) (fun hc1 => ?_) (fun hc1 => ?_)
  · have hF := bq_t hc1 hF
    exact hkk _ _ _ _ _ _ _ (lv_sub hl [2] rfl) hH hF
  · have hF := bq_f hc1 hF
    refine lv_aload_n hx hb dX8_squaresFrom_14 rfl (lv_at hl 0 rfl) ?_
    refine m_aload_n hx hb dX8_squaresFrom_15 rfl (lv_at hl 1 rfl) ?_
    refine lv_iload hx hb dX8_squaresFrom_16 (lv_at hl 3 rfl) ?_
    refine m_cVI hx hb hml hown hk hH hE.le hz (F := fun q4 => F_X8_missedBy q4.1 x1 x4) (C := RX8) (T := TX8) (N := 4) rfl (As := [va_rf x1, .int x4]) (rest := []) (fun o => t_X8_missedBy l D cy z o x1 x4) hF wd_554 wd_542 wd_36 wd_544 wd_543 yn_X8_missedBy ⟨Nat.le_trans (by decide) hfr, Nat.le_trans (by decide) hlo⟩ hl.1 (by first | exact Nat.le_of_ble_eq_true rfl | simp [m_cat, m_ci, m_cl, m_cf, m_cd, m_cr]) rfl dX8_squaresFrom_18 (fun c3 ws H locs cells slots hH hF => ?_)
    refine lv_i2l hx hb dX8_squaresFrom_21 rfl ?_
    refine lv_lstore (lv' := [(5, .long c3.toInt64), (0, .ref x0), (1, va_rf x1), (2, .long x2), (4, .int x4)]) hx hb dX8_squaresFrom_22 hl (by decide) (by first | rfl | simp [m_cat, m_ci, m_cl, m_cf, m_cd, m_cr]) (fun ls hl => ?_)
    refine lv_lload_n hx hb dX8_squaresFrom_24 rfl (lv_at hl 3 rfl) ?_
    refine lv_aload_n hx hb dX8_squaresFrom_25 rfl (lv_at hl 1 rfl) ?_
    refine m_gR hx hb hown hk hH hF fk_RX8_weights lk_RX8_18 dX8_squaresFrom_26 (fun v5 hF => ?_)
    refine lv_iload hx hb dX8_squaresFrom_29 (lv_at hl 4 rfl) ?_
    refine m_aI0 hx hb hk hH hF dX8_squaresFrom_31 (fun v6 hF => ?_)
    refine lv_i2l hx hb dX8_squaresFrom_32 rfl ?_
    refine lv_lload hx hb dX8_squaresFrom_33 (lv_at hl 0 rfl) ?_
    refine lv_lmul hx hb dX8_squaresFrom_35 ?_
    refine lv_lload hx hb dX8_squaresFrom_36 (lv_at hl 0 rfl) ?_
    refine lv_lmul hx hb dX8_squaresFrom_38 ?_
    refine lv_ladd hx hb dX8_squaresFrom_39 ?_
    refine lv_topl (fun v7 hv7 => ?_)
    have hF := rt_t hv7 hF
    refine lv_lstore_n (lv' := [(2, .long v7), (5, .long c3.toInt64), (0, .ref x0), (1, va_rf x1), (4, .int x4)]) hx hb dX8_squaresFrom_40 rfl hl (by decide) (by first | rfl | simp [m_cat, m_ci, m_cl, m_cf, m_cd, m_cr]) (fun ls hl => ?_)
    refine lv_iinc (v := (x4 + (1 : Int32))) (lv' := [(4, .int (x4 + (1 : Int32))), (2, .long v7), (5, .long c3.toInt64), (0, .ref x0), (1, va_rf x1)]) hx hb dX8_squaresFrom_41 hl (k := 4) rfl (by first | rfl | (congr 1)) (by decide) (by first | rfl | simp [m_cat, m_ci, m_cl, m_cf, m_cd, m_cr]) (fun ls hl => ?_)
    refine lv_goto (tgt := 5) hx hb dX8_squaresFrom_44 (by decide) ?_
    exact hrec _ _ _ _ _ _ _ _ (lv_sub hl [3, 4, 1, 0] rfl) hH hF
theorem w_X8_squaresFrom_5 {l : Launch} {D : va_G} {cy : Nat → ClassId} {z : Nat} {p : Program} {e : Env} {R : Room} {s : State} {m : MethodId} {args : Array Value} {below : List Frame} {meth : Method} {c : Code} {ws0 wsf : WS} {rr : Int64} (cx : Cx D cy z RX8 cX8_squaresFrom 7 (some .long) 327 9943 "squaresFrom" p R s m meth c) (hE : AC ws0 wsf R.cells R.slots) (x0 : Nat) (x1 : Option Nat) (k : Int64 → St (Int64)) (hkk : ∀ (x2 : Int64), At_ l D cy z p e R s m args below meth c ws0 wsf vL rr 7 47 [(2, .long x2)] [] (k x2)) : ∀ (n : Nat) (x2 : Int64) (x4 : Int32), At_ l D cy z p e R s m args below meth c ws0 wsf vL rr 7 5 [(0, .ref x0), (1, va_rf x1), (2, .long x2), (4, .int x4)] [] (l_X8_squaresFrom_5 x0 x1 k n x2 x4) := by
  intro n
  induction n with
  | zero =>
    intro x2 x4 ws H locs cells slots ls hl hH hF
    exact fl_t hF
  | succ n ih =>
    intro x2 x4
    exact wb_X8_squaresFrom_5 cx hE x0 x1 (l_X8_squaresFrom_5 x0 x1 k n) k ih hkk x2 x4
set_option maxHeartbeats 4000000 in
set_option maxRecDepth 100000 in
theorem t_X8_squaresFrom (l : Launch) (D : va_G) (cy : Nat → ClassId) (z : Nat) (o : Nat) (x1 : Option Nat) : MT l D cy z yX8_squaresFrom cX8_squaresFrom 7 (some .long) 327 9943 (F_X8_squaresFrom o x1) vL [.ref o, va_rf x1] := by
  refine m_enter [(0, .ref o), (1, va_rf x1)] (by decide) (by first | rfl | simp [lv_args, m_cat, m_ci, m_cl, m_cf, m_cd, m_cr]) (by first | exact Nat.le_of_ble_eq_true rfl | simp [lg_sl, m_cat, m_ci, m_cl, m_cf, m_cd, m_cr]) ?_
  intro p e R s m args below meth c ws0 wsf rr cx hE ws H locs cells slots ls hl hH hF
  obtain ⟨hx, hb, hr, hml, hown, hk, hz, hlocks, hnm, hfr, hlo⟩ := id cx
  unfold F_X8_squaresFrom at hF
  refine lv_lconst (v := (0)) hx hb dX8_squaresFrom_0 (by decide) ?_
  refine lv_lstore_n (lv' := [(2, .long (0 : Int64)), (0, .ref o), (1, va_rf x1)]) hx hb dX8_squaresFrom_1 rfl hl (by decide) (by first | rfl | simp [m_cat, m_ci, m_cl, m_cf, m_cd, m_cr]) (fun ls hl => ?_)
  refine lv_iconst (v := (0)) hx hb dX8_squaresFrom_2 (by decide) ?_
  refine lv_istore (lv' := [(4, .int (0 : Int32)), (2, .long (0 : Int64)), (0, .ref o), (1, va_rf x1)]) hx hb dX8_squaresFrom_3 hl (by decide) (by first | rfl | simp [m_cat, m_ci, m_cl, m_cf, m_cd, m_cr]) (fun ls hl => ?_)
  refine w_X8_squaresFrom_5 cx hE o x1 _ (fun e8 ws H locs cells slots ls hl hH hF => ?_) _ _ _ _ _ _ _ _ _ (lv_sub hl [2, 3, 1, 0] rfl) hH hF
  refine lv_lload_n hx hb dX8_squaresFrom_47 rfl (lv_at hl 0 rfl) ?_
  exact m_lret hx hb hr hlocks hH hE hF dX8_squaresFrom_48

def b_X8_meanFrom_8 (x0 : Nat) (x1 : Option Nat) (rec : Int64 → Int64 → Int32 → St (Int32)) (k : Int64 → Int64 → St (Int32)) (x2 : Int64) (x4 : Int64) (x6 : Int32) : St (Int32) :=
  bd (gI [7] 3 (some x0)) fun v1 => br (v1 ≤ x6) (k x2 x4) (bd (gR [7] 2 (some x0)) fun v3 => bd (aI 0 v3 x6) fun v4 => bd (dr [7] (some x0)) fun q6 => bd (F_X8_missedBy q6.1 x1 x6) fun c5 => bd (rt (x2 + (v4.toInt64 * c5.toInt64))) fun v7 => bd (gR [7] 2 (some x0)) fun v8 => bd (aI 0 v8 x6) fun v9 => bd (rt (x4 + v9.toInt64)) fun v10 => rec v7 v10 (x6 + (1 : Int32)))
def l_X8_meanFrom_8 (x0 : Nat) (x1 : Option Nat) (k : Int64 → Int64 → St (Int32)) : Nat → Int64 → Int64 → Int32 → St (Int32)
  | 0 => fun _ _ _ => fl
  | n + 1 => fun x2 x4 x6 => b_X8_meanFrom_8 x0 x1 (l_X8_meanFrom_8 x0 x1 k n) k x2 x4 x6
def F_X8_meanFrom (o : Nat) (x1 : Option Nat) : St (Int32) :=
  l_X8_meanFrom_8 o x1 (fun (e11 : Int64) (e12 : Int64) => bd (F_X10_rounded e11 e12) fun c13 => rt c13.toInt32) FU (0 : Int64) (0 : Int64) (0 : Int32)
set_option maxHeartbeats 4000000 in
set_option maxRecDepth 100000 in
theorem wb_X8_meanFrom_8 {l : Launch} {D : va_G} {cy : Nat → ClassId} {z : Nat} {p : Program} {e : Env} {R : Room} {s : State} {m : MethodId} {args : Array Value} {below : List Frame} {meth : Method} {c : Code} {ws0 wsf : WS} {rr : Int32} (cx : Cx D cy z RX8 cX8_meanFrom 7 (some .int) 327 9943 "meanFrom" p R s m meth c) (hE : AC ws0 wsf R.cells R.slots) (x0 : Nat) (x1 : Option Nat) (rec : Int64 → Int64 → Int32 → St (Int32)) (k : Int64 → Int64 → St (Int32)) (hrec : ∀ (x2 : Int64) (x4 : Int64) (x6 : Int32), At_ l D cy z p e R s m args below meth c ws0 wsf vI rr 7 8 [(0, .ref x0), (1, va_rf x1), (2, .long x2), (4, .long x4), (6, .int x6)] [] (rec x2 x4 x6)) (hkk : ∀ (x2 : Int64) (x4 : Int64), At_ l D cy z p e R s m args below meth c ws0 wsf vI rr 7 56 [(2, .long x2), (4, .long x4)] [] (k x2 x4)) (x2 : Int64) (x4 : Int64) (x6 : Int32) : At_ l D cy z p e R s m args below meth c ws0 wsf vI rr 7 8 [(0, .ref x0), (1, va_rf x1), (2, .long x2), (4, .long x4), (6, .int x6)] [] (b_X8_meanFrom_8 x0 x1 rec k x2 x4 x6) := by
  intro ws H locs cells slots ls hl hH hF
  obtain ⟨hx, hb, hr, hml, hown, hk, hz, hlocks, hnm, hfr, hlo⟩ := id cx
  unfold b_X8_meanFrom_8 at hF
  refine lv_iload hx hb dX8_meanFrom_8 (lv_at hl 4 rfl) ?_
  refine lv_aload_n hx hb dX8_meanFrom_10 rfl (lv_at hl 0 rfl) ?_
  refine m_gI hx hb hown hk hH hF fk_RX8_size lk_RX8_21 dX8_meanFrom_11 (fun v1 hF => ?_)
  refine lv_icmp_ge (tgt := 56) hx hb dX8_meanFrom_14 (by decide) (fun hc1 => ?_) (fun hc1 => ?_)
  · have hF := bq_t hc1 hF
    exact hkk _ _ _ _ _ _ _ _ (lv_sub hl [2, 3] rfl) hH hF
  · have hF := bq_f hc1 hF
    refine lv_lload_n hx hb dX8_meanFrom_17 rfl (lv_at hl 2 rfl) ?_
    refine lv_aload_n hx hb dX8_meanFrom_18 rfl (lv_at hl 0 rfl) ?_
    refine m_gR hx hb hown hk hH hF fk_RX8_weights lk_RX8_18 dX8_meanFrom_19 (fun v3 hF => ?_)
    refine lv_iload hx hb dX8_meanFrom_22 (lv_at hl 4 rfl) ?_
    refine m_aI0 hx hb hk hH hF dX8_meanFrom_24 (fun v4 hF => ?_)
    refine lv_i2l hx hb dX8_meanFrom_25 rfl ?_
    refine lv_aload_n hx hb dX8_meanFrom_26 rfl (lv_at hl 0 rfl) ?_
    refine m_aload_n hx hb dX8_meanFrom_27 rfl (lv_at hl 1 rfl) ?_
    refine lv_iload hx hb dX8_meanFrom_28 (lv_at hl 4 rfl) ?_
    refine m_cVI hx hb hml hown hk hH hE.le hz (F := fun q6 => F_X8_missedBy q6.1 x1 x6) (C := RX8) (T := TX8) (N := 4) rfl (As := [va_rf x1, .int x6]) (rest := [.long v4.toInt64, .long x2]) (fun o => t_X8_missedBy l D cy z o x1 x6) hF wd_554 wd_542 wd_36 wd_544 wd_543 yn_X8_missedBy ⟨Nat.le_trans (by decide) hfr, Nat.le_trans (by decide) hlo⟩ hl.1 (by first | exact Nat.le_of_ble_eq_true rfl | simp [m_cat, m_ci, m_cl, m_cf, m_cd, m_cr]) rfl dX8_meanFrom_30 (fun c5 ws H locs cells slots hH hF => ?_)
    refine lv_i2l hx hb dX8_meanFrom_33 rfl ?_
    refine lv_lmul hx hb dX8_meanFrom_34 ?_
    refine lv_ladd hx hb dX8_meanFrom_35 ?_
    refine lv_topl (fun v7 hv7 => ?_)
    have hF := rt_t hv7 hF
    refine lv_lstore_n (lv' := [(2, .long v7), (0, .ref x0), (1, va_rf x1), (4, .long x4), (6, .int x6)]) hx hb dX8_meanFrom_36 rfl hl (by decide) (by first | rfl | simp [m_cat, m_ci, m_cl, m_cf, m_cd, m_cr]) (fun ls hl => ?_)
    refine lv_lload hx hb dX8_meanFrom_37 (lv_at hl 3 rfl) ?_
    refine lv_aload_n hx hb dX8_meanFrom_39 rfl (lv_at hl 1 rfl) ?_
    refine m_gR hx hb hown hk hH hF fk_RX8_weights lk_RX8_18 dX8_meanFrom_40 (fun v8 hF => ?_)
    refine lv_iload hx hb dX8_meanFrom_43 (lv_at hl 4 rfl) ?_
    refine m_aI0 hx hb hk hH hF dX8_meanFrom_45 (fun v9 hF => ?_)
    refine lv_i2l hx hb dX8_meanFrom_46 rfl ?_
    refine lv_ladd hx hb dX8_meanFrom_47 ?_
    refine lv_topl (fun v10 hv10 => ?_)
    have hF := rt_t hv10 hF
    refine lv_lstore (lv' := [(4, .long v10), (2, .long v7), (0, .ref x0), (1, va_rf x1), (6, .int x6)]) hx hb dX8_meanFrom_48 hl (by decide) (by first | rfl | simp [m_cat, m_ci, m_cl, m_cf, m_cd, m_cr]) (fun ls hl => ?_)
    refine lv_iinc (v := (x6 + (1 : Int32))) (lv' := [(6, .int (x6 + (1 : Int32))), (4, .long v10), (2, .long v7), (0, .ref x0), (1, va_rf x1)]) hx hb dX8_meanFrom_50 hl (k := 4) rfl (by first | rfl | (congr 1)) (by decide) (by first | rfl | simp [m_cat, m_ci, m_cl, m_cf, m_cd, m_cr]) (fun ls hl => ?_)
    refine lv_goto (tgt := 8) hx hb dX8_meanFrom_53 (by decide) ?_
    exact hrec _ _ _ _ _ _ _ _ _ (lv_sub hl [3, 4, 2, 1, 0] rfl) hH hF
theorem w_X8_meanFrom_8 {l : Launch} {D : va_G} {cy : Nat → ClassId} {z : Nat} {p : Program} {e : Env} {R : Room} {s : State} {m : MethodId} {args : Array Value} {below : List Frame} {meth : Method} {c : Code} {ws0 wsf : WS} {rr : Int32} (cx : Cx D cy z RX8 cX8_meanFrom 7 (some .int) 327 9943 "meanFrom" p R s m meth c) (hE : AC ws0 wsf R.cells R.slots) (x0 : Nat) (x1 : Option Nat) (k : Int64 → Int64 → St (Int32)) (hkk : ∀ (x2 : Int64) (x4 : Int64), At_ l D cy z p e R s m args below meth c ws0 wsf vI rr 7 56 [(2, .long x2), (4, .long x4)] [] (k x2 x4)) : ∀ (n : Nat) (x2 : Int64) (x4 : Int64) (x6 : Int32), At_ l D cy z p e R s m args below meth c ws0 wsf vI rr 7 8 [(0, .ref x0), (1, va_rf x1), (2, .long x2), (4, .long x4), (6, .int x6)] [] (l_X8_meanFrom_8 x0 x1 k n x2 x4 x6) := by
  intro n
  induction n with
  | zero =>
    intro x2 x4 x6 ws H locs cells slots ls hl hH hF
    exact fl_t hF
  | succ n ih =>
    intro x2 x4 x6
    exact wb_X8_meanFrom_8 cx hE x0 x1 (l_X8_meanFrom_8 x0 x1 k n) k ih hkk x2 x4 x6
set_option maxHeartbeats 4000000 in
set_option maxRecDepth 100000 in
theorem t_X8_meanFrom (l : Launch) (D : va_G) (cy : Nat → ClassId) (z : Nat) (o : Nat) (x1 : Option Nat) : MT l D cy z yX8_meanFrom cX8_meanFrom 7 (some .int) 327 9943 (F_X8_meanFrom o x1) vI [.ref o, va_rf x1] := by
  refine m_enter [(0, .ref o), (1, va_rf x1)] (by decide) (by first | rfl | simp [lv_args, m_cat, m_ci, m_cl, m_cf, m_cd, m_cr]) (by first | exact Nat.le_of_ble_eq_true rfl | simp [lg_sl, m_cat, m_ci, m_cl, m_cf, m_cd, m_cr]) ?_
  intro p e R s m args below meth c ws0 wsf rr cx hE ws H locs cells slots ls hl hH hF
  obtain ⟨hx, hb, hr, hml, hown, hk, hz, hlocks, hnm, hfr, hlo⟩ := id cx
  unfold F_X8_meanFrom at hF
  refine lv_lconst (v := (0)) hx hb dX8_meanFrom_0 (by decide) ?_
  refine lv_lstore_n (lv' := [(2, .long (0 : Int64)), (0, .ref o), (1, va_rf x1)]) hx hb dX8_meanFrom_1 rfl hl (by decide) (by first | rfl | simp [m_cat, m_ci, m_cl, m_cf, m_cd, m_cr]) (fun ls hl => ?_)
  refine lv_lconst (v := (0)) hx hb dX8_meanFrom_2 (by decide) ?_
  refine lv_lstore (lv' := [(4, .long (0 : Int64)), (2, .long (0 : Int64)), (0, .ref o), (1, va_rf x1)]) hx hb dX8_meanFrom_3 hl (by decide) (by first | rfl | simp [m_cat, m_ci, m_cl, m_cf, m_cd, m_cr]) (fun ls hl => ?_)
  refine lv_iconst (v := (0)) hx hb dX8_meanFrom_5 (by decide) ?_
  refine lv_istore (lv' := [(6, .int (0 : Int32)), (4, .long (0 : Int64)), (2, .long (0 : Int64)), (0, .ref o), (1, va_rf x1)]) hx hb dX8_meanFrom_6 hl (by decide) (by first | rfl | simp [m_cat, m_ci, m_cl, m_cf, m_cd, m_cr]) (fun ls hl => ?_)
  refine w_X8_meanFrom_8 cx hE o x1 _ (fun e11 e12 ws H locs cells slots ls hl hH hF => ?_) _ _ _ _ _ _ _ _ _ _ (lv_sub hl [3, 4, 2, 1, 0] rfl) hH hF
  refine lv_lload_n hx hb dX8_meanFrom_56 rfl (lv_at hl 0 rfl) ?_
  refine lv_lload hx hb dX8_meanFrom_57 (lv_at hl 1 rfl) ?_
  refine m_cSNL hx hb hml hown hk hH hE.le hz (As := [.long e11, .long e12]) (rest := []) (t_X10_rounded l D cy z e11 e12) hF ⟨_, wd_327⟩ wd_328 wd_33 wd_329 yn_X10_rounded ⟨Nat.le_trans (by decide) hfr, Nat.le_trans (by decide) hlo⟩ hl.1 (by first | exact Nat.le_of_ble_eq_true rfl | simp [m_cat, m_ci, m_cl, m_cf, m_cd, m_cr]) rfl dX8_meanFrom_59 (fun c13 ws H locs cells slots hH hF => ?_)
  refine lv_l2i hx hb dX8_meanFrom_62 rfl ?_
  exact m_iret hx hb hr hlocks hH hE hF rfl dX8_meanFrom_63
