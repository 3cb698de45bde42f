/-! ===== references into arrays, new cells, locals, returns ===== -/
def m_dft (t : Nat) : (Nat → Int32) ⊕ (Nat → Int64) ⊕ (Nat → UInt32) ⊕ (Nat → UInt64) ⊕ (Nat → Option Nat) := match t with
  | 4 => .inr (.inl fun _ => 0)
  | 5 => .inr (.inr (.inl fun _ => 0))
  | 6 => .inr (.inr (.inr (.inl fun _ => 0)))
  | 8 => .inr (.inr (.inr (.inr fun _ => none)))
  | 9 => .inr (.inr (.inr (.inr fun _ => none)))
  | 10 => .inr (.inr (.inr (.inr fun _ => none)))
  | 11 => .inr (.inr (.inr (.inr fun _ => none)))
  | _ => .inl fun _ => 0
/-- a new array of n places -/
def nA (t : Nat) (n : Int32) : St Nat := if n < 0 ∨ 1000000 < n.toNatClampNeg then fl else mk n.toNatClampNeg (.inl (t, (n.toNatClampNeg, m_dft t)))
/-- the class ci's objects may stand in rows of E -/
def asgOk (E : String) (ci : Nat) : Prop := ∃ q, vwCl[ci]? = some q ∧ (q.1 = E ∨ WD (.castable q.1 E))
theorem dr_some {cs : List Nat} {r : Option Nat} {s t : WS} {x : Nat × Nat} (h : (dr cs r).1 s = some (x, t)) : ∃ fs, r = some x.1 ∧ x.2 ∈ cs ∧ s.1 x.1 = some (.inr (x.2, fs)) ∧ t = s := by
  obtain ⟨h3, rfl⟩ := rd_some h
  split at h3
  · cases h3
  · next a =>
    split at h3
    · next o ho =>
      split at h3
      · next hc => cases h3; exact ⟨o.2, rfl, hc, ho, rfl⟩
      · cases h3
    · cases h3
theorem mk_some {n : Nat} {e : PE} {s t : WS} {r : Nat} (h : (mk n e).1 s = some (r, t)) : r = s.2.1 ∧ t = (m_up s.1 s.2.1 e, s.2.1 + 1, s.2.2 + n) := by
  cases h
  exact ⟨rfl, rfl⟩
/-- the room is enough -/
def AL (ws0 wsf : WS) (cells slots : Nat) : Prop := wsf.2.1 ≤ ws0.2.1 + cells ∧ wsf.2.2 ≤ ws0.2.2 + slots
theorem AC.le {ws0 wsf : WS} {cells slots : Nat} (h : AC ws0 wsf cells slots) : AL ws0 wsf cells slots := ⟨Nat.le_of_eq h.1.symm, Nat.le_of_eq h.2.symm⟩
section ROWS
variable {p : Program} {l : Launch} {e : Env} {R : Room} {s : State} {m : MethodId} {args : Array Value} {below : List Frame} {meth : Method} {c : Code} {H : Heap} {locs : List Loc} {cells slots : Nat} {Q : State → Prop}
variable {cc : ByteArray} {pc : Nat} {ls : Array Slot} {rest : List Value} {D : va_G} {cy : Nat → ClassId} {z : Nat} {ws0 ws wsf : WS} {β : Type} {rr : β} {own : String}
theorem m_sR (hx : p.tables.exec = Jvm.exec) (hb : c.code = cc) (hk : KK D cy s) (hH : HI D cy z s ws0 ws H locs cells slots) {t : Nat} {E : String} (ht : t < 12 ∧ m_aty t = .object E) {cs : List Nat} (hcs : ∀ ci ∈ cs, asgOk E ci) {r v : Option Nat} {i : Int32} {K : Unit → St β} (hF : (bd (dr cs v) fun _ => bd (sR t r i v) K).1 ws = some (rr, wsf)) (hdg : decode cc pc = .ok (.aastore, 1))
    (kk : ∀ (ws1 : WS) (H1 : Heap) (locs1 : List Loc), HI D cy z s ws0 ws1 H1 locs1 cells slots → (K ()).1 ws1 = some (rr, wsf) → W p l e R s m args below meth c H1 locs1 cells slots Q (F0 m (pc + 1) ls rest)) : W p l e R s m args below meth c H locs cells slots Q (F0 m pc ls (va_rf v :: .int i :: va_rf r :: rest)) := by
  obtain ⟨b, t1, g1, g2⟩ := bd_some hF
  obtain ⟨fs, rfl, hc, hb1, rfl⟩ := dr_some g1
  obtain ⟨u, t2, h1, h2⟩ := bd_some g2
  obtain ⟨a, x0, y0, rfl, ha, hi, hg, rfl⟩ := m_as_some h1
  split at hg
  · next n f =>
    cases hg
    have hlt : i.toNatClampNeg < n := Nat.not_le.mp fun q => hi (Or.inr q)
    have h0 : ¬ i < 0 := fun q => hi (Or.inl q)
    obtain ⟨q, hq, hasg⟩ := hcs b.2 hc
    have hAny : va_Any E s H b.1 := va_rAny (ci := b.2) (r := q) hk.1 (hH.P hb1) (q0 := 0) rfl hq (fun comp c0 w1 w2 => by
      rcases hasg with rfl | hw
      · obtain ⟨hn, hfc, hkc⟩ := hk.1.1 b.2 q hq
        cases hfc.symm.trans w1
        cases hfc.symm.trans w2
        exact va_assign ⟨hfc, hkc⟩
      · obtain ⟨c1, t1, f1, f2, f3⟩ := Cond.castable_spec (hk.wd hw args)
        cases f1.symm.trans w2
        cases f2.symm.trans w1
        exact f3)
    obtain ⟨cellV, k1, k2, ⟨kC, hkC⟩, hasg2⟩ := hAny
    have hT := (hk.1.2 t _ (m_tys_at cy ht.1)).2
    rw [ht.2] at hT
    obtain ⟨kA, comp, w1, w2, w3, -⟩ := hT
    obtain ⟨kE, hkE, -⟩ := Vm.findClass_spec w3
    refine W.aast hx hb (hH.1.2 a _ ha).2 (fun q h => by cases h) (fun h => by cases h) w1 w2 rfl hkE ⟨h0, by show _ < (arrV _ _ _).slots.size; rw [arrV_size]; exact hlt⟩ k1 (fun q h => by rw [h] at k2; cases k2) hkC (hasg2 _ w3) rfl rfl hdg fun H1 e1 z1 oq => ?_
    refine kk _ H1 _ (hH.put ha z1 oq ?_) h2
    show H1[a]? = some (vp_cell _ _)
    rw [e1]
    rw [vp_cell_q, vp_cell_q, arrV_store]
    congr 2
    funext q
    by_cases hq : q = i.toNatClampNeg
    · subst hq
      simp [updV, va_up, va_rf]
    · simp [updV, va_up, hq]
  · cases hg
theorem m_room (hH : HI D cy z s ws0 ws H locs cells slots) (hE : AL ws0 wsf R.cells R.slots) {t : WS} {a b : Nat} (h1 : ws.2.1 + a = t.2.1) (h2 : ws.2.2 + b = t.2.2) (h3 : t.2.1 ≤ wsf.2.1 ∧ t.2.2 ≤ wsf.2.2) : cells + a ≤ R.cells ∧ slots + b ≤ R.slots := by
  have g1 := hH.2.2.1
  have g2 := hH.2.2.2
  have g3 := hE.1
  have g4 := hE.2
  constructor <;> omega
/-- a new object -/
theorem m_new (hx : p.tables.exec = Jvm.exec) (hb : c.code = cc) (hown : s.vm.findClass own = some m.cls) (hk : KK D cy s) (hH : HI D cy z s ws0 ws H locs cells slots) (hE : AL ws0 wsf R.cells R.slots) (hz : z ≤ s.heap.size) {ci idx : Nat} {C : String} {T : u_T} {N : Nat} {fs : List Value} {K : Nat → St β} (hF : (bd (mk N (.inr (ci, fs))) K).1 ws = some (rr, wsf)) (hc : vwCl[ci]? = some (C, T, N)) (hfs : ∀ j, j < N → defaultValue (m_ty (C, T, N) j) = vp_V fs j) (w1 : WD (.classLink own idx C)) (w2 : WD (.instantiable C N)) (w3 : WD (.initialized C)) (hdg : decode cc pc = .ok (.new idx, 3))
    (kk : ∀ (a : Nat) (ws1 : WS) (H1 : Heap), HI D cy z s ws0 ws1 H1 locs (cells + 1) (slots + N) → (K a).1 ws1 = some (rr, wsf) → W p l e R s m args below meth c H1 locs (cells + 1) (slots + N) Q (F0 m (pc + 3) ls (.ref a :: rest))) : W p l e R s m args below meth c H locs cells slots Q (F0 m pc ls rest) := by
  obtain ⟨r, t, h1, h2⟩ := bd_some hF
  obtain ⟨rfl, rfl⟩ := mk_some h1
  have hm := (K ws.2.1).2 _ _ _ h2
  obtain ⟨g1, g2⟩ := m_room (a := 1) (b := N) hH hE (t := (m_up ws.1 ws.2.1 (.inr (ci, fs)), ws.2.1 + 1, ws.2.2 + N)) rfl rfl hm
  have hKn := hk.1.1 ci _ hc
  refine W.newcK hx hb hown (hk.wd w1 args) (hk.wd w2 args) (hk.wd w3 args) rfl hdg g1 g2 hKn.2.1 hH.1.1 fun H1 kC hkC e1 z1 o1 => ?_
  rw [← hH.1.1] at e1 z1 o1 ⊢
  refine kk H.size _ H1 (hH.push hz z1 o1 ?_) (by rw [hH.1.1]; exact h2)
  exact ⟨_, hc, (u_born (m_ty (C, T, N)) (m_wds hk args) (m_in hc) hKn hkC e1 (m_tyok hc)).to hfs⟩
theorem m_dft_cell (cA : ClassId) (N : Nat) {t : Nat} (h : t < 12) : vp_cell cA (N, m_dft t) = arrV cA N (fun _ => defaultValue (m_aty t)) := by
  match t, h with
  | 0, _ => rfl
  | 1, _ => rfl
  | 2, _ => rfl
  | 3, _ => rfl
  | 4, _ => rfl
  | 5, _ => rfl
  | 6, _ => rfl
  | 7, _ => rfl
  | 8, _ => rfl
  | 9, _ => rfl
  | 10, _ => rfl
  | 11, _ => rfl
  | k + 12, h => exact absurd h (by omega)
theorem nA_some {t : Nat} {n : Int32} {s w : WS} {r : Nat} (h : (nA t n).1 s = some (r, w)) : ¬ n < 0 ∧ n.toNatClampNeg ≤ 1000000 ∧ r = s.2.1 ∧ w = (m_up s.1 s.2.1 (.inl (t, (n.toNatClampNeg, m_dft t))), s.2.1 + 1, s.2.2 + n.toNatClampNeg) := by
  unfold nA at h
  split at h
  · cases h
  · next hc =>
    obtain ⟨h1, h2⟩ := mk_some h
    exact ⟨fun q => hc (Or.inl q), Nat.not_lt.mp fun q => hc (Or.inr q), h1, h2⟩
/-- a new array of numbers -/
theorem m_nA (hx : p.tables.exec = Jvm.exec) (hb : c.code = cc) (hk : KK D cy s) (hH : HI D cy z s ws0 ws H locs cells slots) (hE : AL ws0 wsf R.cells R.slots) (hz : z ≤ s.heap.size) {t : Nat} {atype : ArrayType} (ht : t < 8) (hat : newarray.typeOf atype = m_aty t) (hcb : componentBytes (m_aty t) ≤ 8) (w1 : WD (.arrayClass (m_aty t))) {n : Int32} {K : Nat → St β} (hF : (bd (nA t n) K).1 ws = some (rr, wsf)) (hdg : decode cc pc = .ok (.newarray atype, 2))
    (kk : ∀ (a : Nat) (ws1 : WS) (H1 : Heap), HI D cy z s ws0 ws1 H1 locs (cells + 1) (slots + n.toNatClampNeg) → (K a).1 ws1 = some (rr, wsf) → W p l e R s m args below meth c H1 locs (cells + 1) (slots + n.toNatClampNeg) Q (F0 m (pc + 2) ls (.ref a :: rest))) : W p l e R s m args below meth c H locs cells slots Q (F0 m pc ls (.int n :: rest)) := by
  obtain ⟨r, w, h1, h2⟩ := bd_some hF
  obtain ⟨hn, hN, rfl, rfl⟩ := nA_some h1
  have hm := (K ws.2.1).2 _ _ _ h2
  obtain ⟨g1, g2⟩ := m_room (a := 1) (b := n.toNatClampNeg) hH hE (t := (m_up ws.1 ws.2.1 (.inl (t, (n.toNatClampNeg, m_dft t))), ws.2.1 + 1, ws.2.2 + n.toNatClampNeg)) rfl rfl hm
  refine va_newaK hx hb (by rw [hat]; exact hk.wd w1 args) rfl hdg rfl hn rfl (by rw [hat]; exact Nat.le_trans (Nat.mul_le_mul hN hcb) (by decide)) g1 g2 rfl fun H1 cA e1 z1 o1 hAr hNm => ?_
  have hcA : cA = cy t := by
    have hT := (hk.1.2 t _ (m_tys_at cy (Nat.lt_of_lt_of_le ht (by decide)))).2
    rw [hat] at hNm
    have : s.vm.findClass ("[" ++ (m_aty t).toString) = some (cy t) := by
      match t, ht, hT with
      | 0, _, hT => exact hT
      | 1, _, hT => exact hT
      | 2, _, hT => exact hT
      | 3, _, hT => exact hT
      | 4, _, hT => exact hT
      | 5, _, hT => exact hT
      | 6, _, hT => exact hT
      | 7, _, hT => exact hT
      | k + 8, h, _ => exact absurd h (by omega)
    exact Option.some.inj (hNm.symm.trans this)
  subst hcA
  refine kk H.size _ H1 (hH.push hz z1 o1 ?_) (by rw [hH.1.1]; exact h2)
  show H1[H.size]? = some (vp_cell _ _)
  rw [m_dft_cell _ _ (Nat.lt_of_lt_of_le ht (by decide)), ← hat]
  exact e1
/-- a new array of references -/
theorem m_nQ (hx : p.tables.exec = Jvm.exec) (hb : c.code = cc) (hown : s.vm.findClass own = some m.cls) (hk : KK D cy s) (hH : HI D cy z s ws0 ws H locs cells slots) (hE : AL ws0 wsf R.cells R.slots) (hz : z ≤ s.heap.size) {t idx : Nat} {C : String} (ht : t < 12 ∧ m_aty t = .object C) (w1 : WD (.classLink own idx C)) (w2 : WD (.arrayOver (.object C))) {n : Int32} {K : Nat → St β} (hF : (bd (nA t n) K).1 ws = some (rr, wsf)) (hdg : decode cc pc = .ok (.anewarray idx, 3))
    (kk : ∀ (a : Nat) (ws1 : WS) (H1 : Heap), HI D cy z s ws0 ws1 H1 locs (cells + 1) (slots + n.toNatClampNeg) → (K a).1 ws1 = some (rr, wsf) → W p l e R s m args below meth c H1 locs (cells + 1) (slots + n.toNatClampNeg) Q (F0 m (pc + 3) ls (.ref a :: rest))) : W p l e R s m args below meth c H locs cells slots Q (F0 m pc ls (.int n :: rest)) := by
  obtain ⟨r, w, h1, h2⟩ := bd_some hF
  obtain ⟨hn, hN, rfl, rfl⟩ := nA_some h1
  have hm := (K ws.2.1).2 _ _ _ h2
  obtain ⟨g1, g2⟩ := m_room (a := 1) (b := n.toNatClampNeg) hH hE (t := (m_up ws.1 ws.2.1 (.inl (t, (n.toNatClampNeg, m_dft t))), ws.2.1 + 1, ws.2.2 + n.toNatClampNeg)) rfl rfl hm
  refine W.anew hx hb hown (hk.wd w1 args) (hk.wd w2 args) rfl hdg rfl hn (Nat.le_trans (Nat.mul_le_mul_right 4 hN) (by decide)) g1 g2 fun cA kA comp f1 f2 f3 f4 => ?_
  generalize hH1 : H.push ({ cls := cA, slots := Array.replicate n.toNatClampNeg .null, vm := .none } : Cell) = H1
  have z1 : H1.size = H.size + 1 := by rw [← hH1, Array.size_push]
  have e1 : H1[H.size]? = some (arrV cA n.toNatClampNeg (fun _ => .null)) := by rw [← hH1, Array.getElem?_push_size, ← arrV_new]
  have o1 : ∀ q : Nat, q < H.size → H1[q]? = H[q]? := fun q hq => by rw [← hH1, Array.getElem?_push, if_neg (Nat.ne_of_lt hq)]
  have hcA : cA = cy t := by
    have hT := (hk.1.2 t _ (m_tys_at cy ht.1)).2
    rw [ht.2] at hT
    obtain ⟨_, _, -, -, -, w4⟩ := hT
    exact Option.some.inj (f1.symm.trans w4)
  subst hcA
  refine kk H.size _ H1 (hH.push hz z1 o1 ?_) (by rw [hH.1.1]; exact h2)
  show H1[H.size]? = some (vp_cell _ _)
  rw [m_dft_cell _ _ ht.1, ht.2]
  exact e1
theorem m_aload_n (hx : p.tables.exec = Jvm.exec) (hb : c.code = cc) {k : Fin 4} {i : Nat} {r : Option Nat} (hdg : decode cc pc = .ok (.aload_n k, 1)) (hi : (k : Nat) = i) (hl : ls[i]? = some (.val (va_rf r))) (kk : W p l e R s m args below meth c H locs cells slots Q (F0 m (pc + 1) ls (va_rf r :: rest))) : W p l e R s m args below meth c H locs cells slots Q (F0 m pc ls rest) := by
  cases r with
  | none => exact lv_aload_nN hx hb hdg hi hl kk
  | some a => exact lv_aload_n hx hb hdg hi hl kk
theorem m_aload (hx : p.tables.exec = Jvm.exec) (hb : c.code = cc) {i : Nat} {r : Option Nat} (hdg : decode cc pc = .ok (.aload i, 2)) (hl : ls[i]? = some (.val (va_rf r))) (kk : W p l e R s m args below meth c H locs cells slots Q (F0 m (pc + 2) ls (va_rf r :: rest))) : W p l e R s m args below meth c H locs cells slots Q (F0 m pc ls rest) := by
  cases r with
  | none => exact lv_aloadN hx hb hdg hl kk
  | some a => exact lv_aload hx hb hdg hl kk
theorem m_flt {i : Nat} {v w : Value} {lv lv' : List (Nat × Value)} (h : v = w) (hl : (i, v) :: lv.filter (fun q => !(q.1 == i) && !(q.1 + 1 == i && q.2.category == 2)) = lv') : (i, w) :: lv.filter (fun q => !(q.1 == i) && !(q.1 + 1 == i && q.2.category == 2)) = lv' := by rw [← h]; exact hl
theorem m_astore_n (hx : p.tables.exec = Jvm.exec) (hb : c.code = cc) {k : Fin 4} {i nL : Nat} {r : Option Nat} {lv lv' : List (Nat × Value)} (hdg : decode cc pc = .ok (.astore_n k, 1)) (hi : (k : Nat) = i) (h : lv_has ls nL lv) (hn : i < nL) (hl : (i, va_rf r) :: lv.filter (fun q => !(q.1 == i) && !(q.1 + 1 == i && q.2.category == 2)) = lv') (kk : ∀ ls' : Array Slot, lv_has ls' nL lv' → W p l e R s m args below meth c H locs cells slots Q (F0 m (pc + 1) ls' rest)) : W p l e R s m args below meth c H locs cells slots Q (F0 m pc ls (va_rf r :: rest)) := by
  cases r with
  | none => exact lv_astore_nN hx hb hdg hi h hn hl kk
  | some a => exact lv_astore_n hx hb hdg hi h hn hl kk
theorem m_astore (hx : p.tables.exec = Jvm.exec) (hb : c.code = cc) {i nL : Nat} {r : Option Nat} {lv lv' : List (Nat × Value)} (hdg : decode cc pc = .ok (.astore i, 2)) (h : lv_has ls nL lv) (hn : i < nL) (hl : (i, va_rf r) :: lv.filter (fun q => !(q.1 == i) && !(q.1 + 1 == i && q.2.category == 2)) = lv') (kk : ∀ ls' : Array Slot, lv_has ls' nL lv' → W p l e R s m args below meth c H locs cells slots Q (F0 m (pc + 2) ls' rest)) : W p l e R s m args below meth c H locs cells slots Q (F0 m pc ls (va_rf r :: rest)) := by
  cases r with
  | none => exact lv_astoreN hx hb hdg h hn hl kk
  | some a => exact lv_astore hx hb hdg h hn hl kk
/-- a test for null -/
theorem m_ifnull (hx : p.tables.exec = Jvm.exec) (hb : c.code = cc) {r : Option Nat} {off : Int} {tgt : Nat} (hdg : decode cc pc = .ok (.ifnull off, 3)) (ht : (pc : Int) + off = (tgt : Int)) (k1 : r = none → W p l e R s m args below meth c H locs cells slots Q (F0 m tgt ls rest)) (k2 : ¬ r = none → W p l e R s m args below meth c H locs cells slots Q (F0 m (pc + 3) ls rest)) : W p l e R s m args below meth c H locs cells slots Q (F0 m pc ls (va_rf r :: rest)) := by
  cases r with
  | none => exact lv_ifnullN hx hb hdg ht (k1 rfl)
  | some a => exact lv_ifnull hx hb hdg (k2 (fun h => by cases h))
theorem m_ifnonnull (hx : p.tables.exec = Jvm.exec) (hb : c.code = cc) {r : Option Nat} {off : Int} {tgt : Nat} (hdg : decode cc pc = .ok (.ifnonnull off, 3)) (ht : (pc : Int) + off = (tgt : Int)) (k1 : ¬ r = none → W p l e R s m args below meth c H locs cells slots Q (F0 m tgt ls rest)) (k2 : r = none → W p l e R s m args below meth c H locs cells slots Q (F0 m (pc + 3) ls rest)) : W p l e R s m args below meth c H locs cells slots Q (F0 m pc ls (va_rf r :: rest)) := by
  cases r with
  | none => exact lv_ifnonnullN hx hb hdg (k2 rfl)
  | some a => exact lv_ifnonnull hx hb hdg ht (k1 (fun h => by cases h))
/-- at a method's end: the world is the last one, all room is used -/
theorem m_end (hH : HI D cy z s ws0 ws H locs cells slots) (hE : AC ws0 wsf R.cells R.slots) {v r : β} (hF : (rt v).1 ws = some (r, wsf)) : v = r ∧ ws = wsf ∧ cells = R.cells ∧ slots = R.slots := by
  cases hF
  have g1 := hH.2.2.1
  have g2 := hH.2.2.2
  have g3 := hE.1
  have g4 := hE.2
  exact ⟨rfl, rfl, by omega, by omega⟩
theorem m_iret (hx : p.tables.exec = Jvm.exec) (hb : c.code = cc) {ty : FieldType} (hr : meth.sig.returnType = some ty) (hlocks : meth.locks = false) (hH : HI D cy z s ws0 ws H locs cells slots) (hE : AC ws0 wsf R.cells R.slots) {v r : Int32} (hF : (rt v).1 ws = some (r, wsf)) (hn : narrow ty (.int v) = .int v) (hdg : decode cc pc = .ok (.ireturn, 1)) : W p l e R s m args below meth c H locs cells slots (MQ below (Qm D cy z (vI r) wsf) args s R.cells R.slots (fun q => z ≤ q)) (F0 m pc ls [.int v]) := by
  obtain ⟨rfl, rfl, rfl, rfl⟩ := m_end hH hE hF
  exact W.zret hx hb hr hn (fun t ht hW => ⟨rfl, by rw [ht]; exact hH.1, hH.2.1.F ht⟩) hH.2.1.2.2 hdg hlocks
theorem m_lret (hx : p.tables.exec = Jvm.exec) (hb : c.code = cc) (hr : meth.sig.returnType = some .long) (hlocks : meth.locks = false) (hH : HI D cy z s ws0 ws H locs cells slots) (hE : AC ws0 wsf R.cells R.slots) {v r : Int64} (hF : (rt v).1 ws = some (r, wsf)) (hdg : decode cc pc = .ok (.lreturn, 1)) : W p l e R s m args below meth c H locs cells slots (MQ below (Qm D cy z (vL r) wsf) args s R.cells R.slots (fun q => z ≤ q)) (F0 m pc ls [.long v]) := by
  obtain ⟨rfl, rfl, rfl, rfl⟩ := m_end hH hE hF
  exact W.lret hx hb hr (fun t ht hW => ⟨rfl, by rw [ht]; exact hH.1, hH.2.1.F ht⟩) hH.2.1.2.2 hdg hlocks
theorem m_fret (hx : p.tables.exec = Jvm.exec) (hb : c.code = cc) (hr : meth.sig.returnType = some .float) (hlocks : meth.locks = false) (hH : HI D cy z s ws0 ws H locs cells slots) (hE : AC ws0 wsf R.cells R.slots) {v r : UInt32} (hF : (rt v).1 ws = some (r, wsf)) (hdg : decode cc pc = .ok (.freturn, 1)) : W p l e R s m args below meth c H locs cells slots (MQ below (Qm D cy z (vF r) wsf) args s R.cells R.slots (fun q => z ≤ q)) (F0 m pc ls [.float v]) := by
  obtain ⟨rfl, rfl, rfl, rfl⟩ := m_end hH hE hF
  exact W.fret hx hb hr (fun t ht hW => ⟨rfl, by rw [ht]; exact hH.1, hH.2.1.F ht⟩) hH.2.1.2.2 hdg hlocks
theorem m_dret (hx : p.tables.exec = Jvm.exec) (hb : c.code = cc) (hr : meth.sig.returnType = some .double) (hlocks : meth.locks = false) (hH : HI D cy z s ws0 ws H locs cells slots) (hE : AC ws0 wsf R.cells R.slots) {v r : UInt64} (hF : (rt v).1 ws = some (r, wsf)) (hdg : decode cc pc = .ok (.dreturn, 1)) : W p l e R s m args below meth c H locs cells slots (MQ below (Qm D cy z (vD r) wsf) args s R.cells R.slots (fun q => z ≤ q)) (F0 m pc ls [.double v]) := by
  obtain ⟨rfl, rfl, rfl, rfl⟩ := m_end hH hE hF
  exact W.dret hx hb hr (fun t ht hW => ⟨rfl, by rw [ht]; exact hH.1, hH.2.1.F ht⟩) hH.2.1.2.2 hdg hlocks
theorem m_aret (hx : p.tables.exec = Jvm.exec) (hb : c.code = cc) {rty : FieldType} (hr : meth.sig.returnType = some rty) (hrt : (∃ n, rty = .object n) ∨ ∃ t, rty = .array t) (hlocks : meth.locks = false) (hH : HI D cy z s ws0 ws H locs cells slots) (hE : AC ws0 wsf R.cells R.slots) {v r : Option Nat} (hF : (rt v).1 ws = some (r, wsf)) (hdg : decode cc pc = .ok (.areturn, 1)) : W p l e R s m args below meth c H locs cells slots (MQ below (Qm D cy z (vR r) wsf) args s R.cells R.slots (fun q => z ≤ q)) (F0 m pc ls [va_rf v]) := by
  obtain ⟨rfl, rfl, rfl, rfl⟩ := m_end hH hE hF
  exact W.aret hx hb hr hrt (by cases v with | none => exact Or.inl rfl | some a => exact Or.inr ⟨a, rfl⟩) (fun t ht hW => ⟨rfl, by rw [ht]; exact hH.1, hH.2.1.F ht⟩) hH.2.1.2.2 hdg hlocks
theorem m_vret (hx : p.tables.exec = Jvm.exec) (hb : c.code = cc) (hr : meth.sig.returnType = none) (hlocks : meth.locks = false) (hH : HI D cy z s ws0 ws H locs cells slots) (hE : AC ws0 wsf R.cells R.slots) {r : Unit} (hF : (rt ()).1 ws = some (r, wsf)) (hdg : decode cc pc = .ok (.return_, 1)) : W p l e R s m args below meth c H locs cells slots (MQ below (Qm D cy z (vU r) wsf) args s R.cells R.slots (fun q => z ≤ q)) (F0 m pc ls []) := by
  obtain ⟨-, rfl, rfl, rfl⟩ := m_end hH hE hF
  exact W.vret hx hb hr (fun t ht hW => ⟨rfl, by rw [ht]; exact hH.1, hH.2.1.F ht⟩) hH.2.1.2.2 hdg hlocks
end ROWS
