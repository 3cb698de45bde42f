/-! ===== arrays, new cells, returns ===== -/
theorem m_as_some {t : Nat} {r : Option Nat} {i : Int32} {g : Nat → vp_A → Option vp_A} {s w : WS} {u : Unit} (h : (m_as t r i g).1 s = some (u, w)) : ∃ a x y, r = some a ∧ s.1 a = some (.inl (t, x)) ∧ ¬ (i < 0 ∨ x.1 ≤ i.toNatClampNeg) ∧ g i.toNatClampNeg x = some y ∧ w = (m_up s.1 a (.inl (t, y)), s.2) := by
  unfold m_as at h
  split at h
  · cases h
  · next a =>
    obtain ⟨e1, e2, h1, h2, h3⟩ := wr_some h
    split at h2
    · next x =>
      split at h2
      · next hc =>
        split at h2
        · cases h2
        · next y hy =>
          cases h2
          obtain ⟨x1, x2⟩ := x
          obtain ⟨rfl, hc2⟩ := hc
          exact ⟨a, x2, y, rfl, h1, hc2, hy, h3⟩
      · cases h2
    · cases h2
section ROWS
variable {p : Program} {l : Launch} {e : Env} {R : Room} {s : State} {m : MethodId} {args : Array Value} {below : List Frame} {meth : Method} {c : Code} {H : Heap} {locs : List Loc} {cells slots : Nat} {Q : State → Prop}
variable {cc : ByteArray} {pc : Nat} {ls : Array Slot} {rest : List Value} {D : va_G} {cy : Nat → ClassId} {z : Nat} {ws0 ws wsf : WS} {β : Type} {rr : β} {own : String}
theorem m_aI0 (hx : p.tables.exec = Jvm.exec) (hb : c.code = cc) (hk : KK D cy s) (hH : HI D cy z s ws0 ws H locs cells slots) {r : Option Nat} {i : Int32} {K : Int32 → St β} (hF : (bd (aI 0 r i) K).1 ws = some (rr, wsf)) (hdg : decode cc pc = .ok (.iaload, 1))
    (kk : ∀ x : Int32, (K x).1 ws = some (rr, wsf) → W p l e R s m args below meth c H locs cells slots Q (F0 m (pc + 1) ls (.int x :: rest))) : W p l e R s m args below meth c H locs cells slots Q (F0 m pc ls (.int i :: va_rf r :: rest)) := by
  obtain ⟨x, t, h1, h2⟩ := bd_some hF
  obtain ⟨h3, rfl⟩ := rd_some h1
  split at h3
  · next n f hf =>
    split at h3
    · cases h3
    · next hi =>
      cases h3
      obtain ⟨a, rfl, ha⟩ := m_ar_some hf
      exact va_iald (D := D) hx hb hk.1 (hH.P ha) 0 0 rfl (m_tys_at cy (by decide)) hi hdg (kk _ h2)
  · cases h3
theorem m_aI1 (hx : p.tables.exec = Jvm.exec) (hb : c.code = cc) (hk : KK D cy s) (hH : HI D cy z s ws0 ws H locs cells slots) {r : Option Nat} {i : Int32} {K : Int32 → St β} (hF : (bd (aI 1 r i) K).1 ws = some (rr, wsf)) (hdg : decode cc pc = .ok (.baload, 1))
    (kk : ∀ x : Int32, (K x).1 ws = some (rr, wsf) → W p l e R s m args below meth c H locs cells slots Q (F0 m (pc + 1) ls (.int x :: rest))) : W p l e R s m args below meth c H locs cells slots Q (F0 m pc ls (.int i :: va_rf r :: rest)) := by
  obtain ⟨x, t, h1, h2⟩ := bd_some hF
  obtain ⟨h3, rfl⟩ := rd_some h1
  split at h3
  · next n f hf =>
    split at h3
    · cases h3
    · next hi =>
      cases h3
      obtain ⟨a, rfl, ha⟩ := m_ar_some hf
      exact va_bald (D := D) hx hb hk.1 (hH.P ha) 0 1 rfl (m_tys_at cy (by decide)) hi hdg (kk _ h2)
  · cases h3
theorem m_aI2 (hx : p.tables.exec = Jvm.exec) (hb : c.code = cc) (hk : KK D cy s) (hH : HI D cy z s ws0 ws H locs cells slots) {r : Option Nat} {i : Int32} {K : Int32 → St β} (hF : (bd (aI 2 r i) K).1 ws = some (rr, wsf)) (hdg : decode cc pc = .ok (.caload, 1))
    (kk : ∀ x : Int32, (K x).1 ws = some (rr, wsf) → W p l e R s m args below meth c H locs cells slots Q (F0 m (pc + 1) ls (.int x :: rest))) : W p l e R s m args below meth c H locs cells slots Q (F0 m pc ls (.int i :: va_rf r :: rest)) := by
  obtain ⟨x, t, h1, h2⟩ := bd_some hF
  obtain ⟨h3, rfl⟩ := rd_some h1
  split at h3
  · next n f hf =>
    split at h3
    · cases h3
    · next hi =>
      cases h3
      obtain ⟨a, rfl, ha⟩ := m_ar_some hf
      exact va_cald (D := D) hx hb hk.1 (hH.P ha) 0 2 rfl (m_tys_at cy (by decide)) hi hdg (kk _ h2)
  · cases h3
theorem m_aI3 (hx : p.tables.exec = Jvm.exec) (hb : c.code = cc) (hk : KK D cy s) (hH : HI D cy z s ws0 ws H locs cells slots) {r : Option Nat} {i : Int32} {K : Int32 → St β} (hF : (bd (aI 3 r i) K).1 ws = some (rr, wsf)) (hdg : decode cc pc = .ok (.saload, 1))
    (kk : ∀ x : Int32, (K x).1 ws = some (rr, wsf) → W p l e R s m args below meth c H locs cells slots Q (F0 m (pc + 1) ls (.int x :: rest))) : W p l e R s m args below meth c H locs cells slots Q (F0 m pc ls (.int i :: va_rf r :: rest)) := by
  obtain ⟨x, t, h1, h2⟩ := bd_some hF
  obtain ⟨h3, rfl⟩ := rd_some h1
  split at h3
  · next n f hf =>
    split at h3
    · cases h3
    · next hi =>
      cases h3
      obtain ⟨a, rfl, ha⟩ := m_ar_some hf
      exact va_sald (D := D) hx hb hk.1 (hH.P ha) 0 3 rfl (m_tys_at cy (by decide)) hi hdg (kk _ h2)
  · cases h3
theorem m_aI7 (hx : p.tables.exec = Jvm.exec) (hb : c.code = cc) (hk : KK D cy s) (hH : HI D cy z s ws0 ws H locs cells slots) {r : Option Nat} {i : Int32} {K : Int32 → St β} (hF : (bd (aI 7 r i) K).1 ws = some (rr, wsf)) (hdg : decode cc pc = .ok (.baload, 1))
    (kk : ∀ x : Int32, (K x).1 ws = some (rr, wsf) → W p l e R s m args below meth c H locs cells slots Q (F0 m (pc + 1) ls (.int x :: rest))) : W p l e R s m args below meth c H locs cells slots Q (F0 m pc ls (.int i :: va_rf r :: rest)) := by
  obtain ⟨x, t, h1, h2⟩ := bd_some hF
  obtain ⟨h3, rfl⟩ := rd_some h1
  split at h3
  · next n f hf =>
    split at h3
    · cases h3
    · next hi =>
      cases h3
      obtain ⟨a, rfl, ha⟩ := m_ar_some hf
      exact va_zald (D := D) hx hb hk.1 (hH.P ha) 0 7 rfl (m_tys_at cy (by decide)) hi hdg (kk _ h2)
  · cases h3
theorem m_aL (hx : p.tables.exec = Jvm.exec) (hb : c.code = cc) (hk : KK D cy s) (hH : HI D cy z s ws0 ws H locs cells slots) {r : Option Nat} {i : Int32} {K : Int64 → St β} (hF : (bd (aL r i) K).1 ws = some (rr, wsf)) (hdg : decode cc pc = .ok (.laload, 1))
    (kk : ∀ x : Int64, (K x).1 ws = some (rr, wsf) → W p l e R s m args below meth c H locs cells slots Q (F0 m (pc + 1) ls (.long x :: rest))) : W p l e R s m args below meth c H locs cells slots Q (F0 m pc ls (.int i :: va_rf r :: rest)) := by
  obtain ⟨x, t, h1, h2⟩ := bd_some hF
  obtain ⟨h3, rfl⟩ := rd_some h1
  split at h3
  · next n f hf =>
    split at h3
    · cases h3
    · next hi =>
      cases h3
      obtain ⟨a, rfl, ha⟩ := m_ar_some hf
      exact va_lald (D := D) hx hb hk.1 (hH.P ha) 0 4 rfl (m_tys_at cy (by decide)) hi hdg (kk _ h2)
  · cases h3
theorem m_aF (hx : p.tables.exec = Jvm.exec) (hb : c.code = cc) (hk : KK D cy s) (hH : HI D cy z s ws0 ws H locs cells slots) {r : Option Nat} {i : Int32} {K : UInt32 → St β} (hF : (bd (aF r i) K).1 ws = some (rr, wsf)) (hdg : decode cc pc = .ok (.faload, 1))
    (kk : ∀ x : UInt32, (K x).1 ws = some (rr, wsf) → W p l e R s m args below meth c H locs cells slots Q (F0 m (pc + 1) ls (.float x :: rest))) : W p l e R s m args below meth c H locs cells slots Q (F0 m pc ls (.int i :: va_rf r :: rest)) := by
  obtain ⟨x, t, h1, h2⟩ := bd_some hF
  obtain ⟨h3, rfl⟩ := rd_some h1
  split at h3
  · next n f hf =>
    split at h3
    · cases h3
    · next hi =>
      cases h3
      obtain ⟨a, rfl, ha⟩ := m_ar_some hf
      exact va_fald (D := D) hx hb hk.1 (hH.P ha) 0 5 rfl (m_tys_at cy (by decide)) hi hdg (kk _ h2)
  · cases h3
theorem m_aD (hx : p.tables.exec = Jvm.exec) (hb : c.code = cc) (hk : KK D cy s) (hH : HI D cy z s ws0 ws H locs cells slots) {r : Option Nat} {i : Int32} {K : UInt64 → St β} (hF : (bd (aD r i) K).1 ws = some (rr, wsf)) (hdg : decode cc pc = .ok (.daload, 1))
    (kk : ∀ x : UInt64, (K x).1 ws = some (rr, wsf) → W p l e R s m args below meth c H locs cells slots Q (F0 m (pc + 1) ls (.double x :: rest))) : W p l e R s m args below meth c H locs cells slots Q (F0 m pc ls (.int i :: va_rf r :: rest)) := by
  obtain ⟨x, t, h1, h2⟩ := bd_some hF
  obtain ⟨h3, rfl⟩ := rd_some h1
  split at h3
  · next n f hf =>
    split at h3
    · cases h3
    · next hi =>
      cases h3
      obtain ⟨a, rfl, ha⟩ := m_ar_some hf
      exact va_dald (D := D) hx hb hk.1 (hH.P ha) 0 6 rfl (m_tys_at cy (by decide)) hi hdg (kk _ h2)
  · cases h3
theorem m_aR (hx : p.tables.exec = Jvm.exec) (hb : c.code = cc) (hk : KK D cy s) (hH : HI D cy z s ws0 ws H locs cells slots) {t : Nat} {C : String} (ht : t < 12 ∧ m_aty t = .object C) {r : Option Nat} {i : Int32} {K : Option Nat → St β} (hF : (bd (aR t r i) K).1 ws = some (rr, wsf)) (hdg : decode cc pc = .ok (.aaload, 1))
    (kk : ∀ x : Option Nat, (K x).1 ws = some (rr, wsf) → W p l e R s m args below meth c H locs cells slots Q (F0 m (pc + 1) ls (va_rf x :: rest))) : W p l e R s m args below meth c H locs cells slots Q (F0 m pc ls (.int i :: va_rf r :: rest)) := by
  obtain ⟨x, w, h1, h2⟩ := bd_some hF
  obtain ⟨h3, rfl⟩ := rd_some h1
  split at h3
  · next n f hf =>
    split at h3
    · cases h3
    · next hi =>
      cases h3
      obtain ⟨a, rfl, ha⟩ := m_ar_some hf
      exact va_aldq (D := D) (C := C) hx hb hk.1 (hH.P ha) 0 t rfl (by rw [m_tys_at cy ht.1, ht.2]) hi hdg (kk _ h2)
  · cases h3
theorem m_aN (hx : p.tables.exec = Jvm.exec) (hb : c.code = cc) (hk : KK D cy s) (hH : HI D cy z s ws0 ws H locs cells slots) {t : Nat} (ht : t < 12) {r : Option Nat} {K : Int32 → St β} (hF : (bd (aN t r) K).1 ws = some (rr, wsf)) (hdg : decode cc pc = .ok (.arraylength, 1))
    (kk : ∀ x : Int32, (K x).1 ws = some (rr, wsf) → W p l e R s m args below meth c H locs cells slots Q (F0 m (pc + 1) ls (.int x :: rest))) : W p l e R s m args below meth c H locs cells slots Q (F0 m pc ls (va_rf r :: rest)) := by
  obtain ⟨x, w, h1, h2⟩ := bd_some hF
  obtain ⟨h3, rfl⟩ := rd_some h1
  split at h3
  · next y hy =>
    cases h3
    obtain ⟨a, rfl, ha⟩ := m_ar_some hy
    exact va_alen (D := D) hx hb hk.1 (hH.P ha) 0 t rfl (m_tys_at cy ht) rfl hdg (kk _ h2)
  · cases h3
theorem m_sI0 (hx : p.tables.exec = Jvm.exec) (hb : c.code = cc) (hk : KK D cy s) (hH : HI D cy z s ws0 ws H locs cells slots) {r : Option Nat} {i x : Int32} {K : Unit → St β} (hF : (bd (sI 0 r i x) K).1 ws = some (rr, wsf)) (hdg : decode cc pc = .ok (.iastore, 1))
    (kk : ∀ (ws1 : WS) (H1 : Heap) (locs1 : List Loc), HI D cy z s ws0 ws1 H1 locs1 cells slots → (K ()).1 ws1 = some (rr, wsf) → W p l e R s m args below meth c H1 locs1 cells slots Q (F0 m (pc + 1) ls rest)) : W p l e R s m args below meth c H locs cells slots Q (F0 m pc ls (.int x :: .int i :: va_rf r :: rest)) := by
  obtain ⟨u, t, h1, h2⟩ := bd_some hF
  obtain ⟨a, x0, y0, rfl, ha, hi, hg, rfl⟩ := m_as_some h1
  split at hg
  · next n f =>
    cases hg
    refine W.iast hx hb (hH.1.2 a _ ha).2 ((hk.1.2 0 _ (m_tys_at cy (by decide))).1 n (fun j => .int (f j))) (fun q => by cases q) (by show ¬ (i < 0 ∨ (arrV _ _ _).slots.size ≤ _); rw [arrV_size]; exact hi) rfl rfl hdg fun H1 e1 z1 oq => ?_
    refine kk _ H1 _ (hH.put ha z1 oq ?_) h2
    show H1[a]? = some (vp_cell _ _)
    rw [e1]
    rw [vp_cell_i, vp_cell_i, arrV_store]
    congr 2
    funext q
    by_cases hq : q = i.toNatClampNeg
    · subst hq
      simp [updV, upd]
    · simp [updV, upd, hq]
  · cases hg
theorem m_sI1 (hx : p.tables.exec = Jvm.exec) (hb : c.code = cc) (hk : KK D cy s) (hH : HI D cy z s ws0 ws H locs cells slots) {r : Option Nat} {i x : Int32} {K : Unit → St β} (hF : (bd (sI 1 r i (vp_nar .byte x)) K).1 ws = some (rr, wsf)) (hdg : decode cc pc = .ok (.bastore, 1))
    (kk : ∀ (ws1 : WS) (H1 : Heap) (locs1 : List Loc), HI D cy z s ws0 ws1 H1 locs1 cells slots → (K ()).1 ws1 = some (rr, wsf) → W p l e R s m args below meth c H1 locs1 cells slots Q (F0 m (pc + 1) ls rest)) : W p l e R s m args below meth c H locs cells slots Q (F0 m pc ls (.int x :: .int i :: va_rf r :: rest)) := by
  obtain ⟨u, t, h1, h2⟩ := bd_some hF
  obtain ⟨a, x0, y0, rfl, ha, hi, hg, rfl⟩ := m_as_some h1
  split at hg
  · next n f =>
    cases hg
    refine W.bast hx hb (hH.1.2 a _ ha).2 ((hk.1.2 1 _ (m_tys_at cy (by decide))).1 n (fun j => .int (f j))) (fun q => by cases q) (by show ¬ (i < 0 ∨ (arrV _ _ _).slots.size ≤ _); rw [arrV_size]; exact hi) rfl rfl hdg fun H1 e1 z1 oq => ?_
    refine kk _ H1 _ (hH.put ha z1 oq ?_) h2
    show H1[a]? = some (vp_cell _ _)
    rw [e1]
    rw [vp_cell_i, vp_cell_i, arrV_store]
    congr 2
    funext q
    by_cases hq : q = i.toNatClampNeg
    · subst hq
      simp [updV, upd, vp_nar]
      try rfl
    · simp [updV, upd, hq]
  · cases hg
theorem m_sI2 (hx : p.tables.exec = Jvm.exec) (hb : c.code = cc) (hk : KK D cy s) (hH : HI D cy z s ws0 ws H locs cells slots) {r : Option Nat} {i x : Int32} {K : Unit → St β} (hF : (bd (sI 2 r i (vp_nar .char x)) K).1 ws = some (rr, wsf)) (hdg : decode cc pc = .ok (.castore, 1))
    (kk : ∀ (ws1 : WS) (H1 : Heap) (locs1 : List Loc), HI D cy z s ws0 ws1 H1 locs1 cells slots → (K ()).1 ws1 = some (rr, wsf) → W p l e R s m args below meth c H1 locs1 cells slots Q (F0 m (pc + 1) ls rest)) : W p l e R s m args below meth c H locs cells slots Q (F0 m pc ls (.int x :: .int i :: va_rf r :: rest)) := by
  obtain ⟨u, t, h1, h2⟩ := bd_some hF
  obtain ⟨a, x0, y0, rfl, ha, hi, hg, rfl⟩ := m_as_some h1
  split at hg
  · next n f =>
    cases hg
    refine W.cast hx hb (hH.1.2 a _ ha).2 ((hk.1.2 2 _ (m_tys_at cy (by decide))).1 n (fun j => .int (f j))) (fun q => by cases q) (by show ¬ (i < 0 ∨ (arrV _ _ _).slots.size ≤ _); rw [arrV_size]; exact hi) rfl rfl hdg fun H1 e1 z1 oq => ?_
    refine kk _ H1 _ (hH.put ha z1 oq ?_) h2
    show H1[a]? = some (vp_cell _ _)
    rw [e1]
    rw [vp_cell_i, vp_cell_i, arrV_store]
    congr 2
    funext q
    by_cases hq : q = i.toNatClampNeg
    · subst hq
      simp [updV, upd, vp_nar]
      try rfl
    · simp [updV, upd, hq]
  · cases hg
theorem m_sI3 (hx : p.tables.exec = Jvm.exec) (hb : c.code = cc) (hk : KK D cy s) (hH : HI D cy z s ws0 ws H locs cells slots) {r : Option Nat} {i x : Int32} {K : Unit → St β} (hF : (bd (sI 3 r i (vp_nar .short x)) K).1 ws = some (rr, wsf)) (hdg : decode cc pc = .ok (.sastore, 1))
    (kk : ∀ (ws1 : WS) (H1 : Heap) (locs1 : List Loc), HI D cy z s ws0 ws1 H1 locs1 cells slots → (K ()).1 ws1 = some (rr, wsf) → W p l e R s m args below meth c H1 locs1 cells slots Q (F0 m (pc + 1) ls rest)) : W p l e R s m args below meth c H locs cells slots Q (F0 m pc ls (.int x :: .int i :: va_rf r :: rest)) := by
  obtain ⟨u, t, h1, h2⟩ := bd_some hF
  obtain ⟨a, x0, y0, rfl, ha, hi, hg, rfl⟩ := m_as_some h1
  split at hg
  · next n f =>
    cases hg
    refine W.sast hx hb (hH.1.2 a _ ha).2 ((hk.1.2 3 _ (m_tys_at cy (by decide))).1 n (fun j => .int (f j))) (fun q => by cases q) (by show ¬ (i < 0 ∨ (arrV _ _ _).slots.size ≤ _); rw [arrV_size]; exact hi) rfl rfl hdg fun H1 e1 z1 oq => ?_
    refine kk _ H1 _ (hH.put ha z1 oq ?_) h2
    show H1[a]? = some (vp_cell _ _)
    rw [e1]
    rw [vp_cell_i, vp_cell_i, arrV_store]
    congr 2
    funext q
    by_cases hq : q = i.toNatClampNeg
    · subst hq
      simp [updV, upd, vp_nar]
      try rfl
    · simp [updV, upd, hq]
  · cases hg
theorem m_sI7 (hx : p.tables.exec = Jvm.exec) (hb : c.code = cc) (hk : KK D cy s) (hH : HI D cy z s ws0 ws H locs cells slots) {r : Option Nat} {i x : Int32} {K : Unit → St β} (hF : (bd (sI 7 r i (vp_nar .boolean x)) K).1 ws = some (rr, wsf)) (hdg : decode cc pc = .ok (.bastore, 1))
    (kk : ∀ (ws1 : WS) (H1 : Heap) (locs1 : List Loc), HI D cy z s ws0 ws1 H1 locs1 cells slots → (K ()).1 ws1 = some (rr, wsf) → W p l e R s m args below meth c H1 locs1 cells slots Q (F0 m (pc + 1) ls rest)) : W p l e R s m args below meth c H locs cells slots Q (F0 m pc ls (.int x :: .int i :: va_rf r :: rest)) := by
  obtain ⟨u, t, h1, h2⟩ := bd_some hF
  obtain ⟨a, x0, y0, rfl, ha, hi, hg, rfl⟩ := m_as_some h1
  split at hg
  · next n f =>
    cases hg
    refine W.zast hx hb (hH.1.2 a _ ha).2 ((hk.1.2 7 _ (m_tys_at cy (by decide))).1 n (fun j => .int (f j))) (fun q => by cases q) (by show ¬ (i < 0 ∨ (arrV _ _ _).slots.size ≤ _); rw [arrV_size]; exact hi) rfl rfl hdg fun H1 e1 z1 oq => ?_
    refine kk _ H1 _ (hH.put ha z1 oq ?_) h2
    show H1[a]? = some (vp_cell _ _)
    rw [e1]
    rw [vp_cell_i, vp_cell_i, arrV_store]
    congr 2
    funext q
    by_cases hq : q = i.toNatClampNeg
    · subst hq
      simp [updV, upd, vp_nar]
      try rfl
    · simp [updV, upd, hq]
  · cases hg
theorem m_sL (hx : p.tables.exec = Jvm.exec) (hb : c.code = cc) (hk : KK D cy s) (hH : HI D cy z s ws0 ws H locs cells slots) {r : Option Nat} {i : Int32} {x : Int64} {K : Unit → St β} (hF : (bd (sL r i x) K).1 ws = some (rr, wsf)) (hdg : decode cc pc = .ok (.lastore, 1))
    (kk : ∀ (ws1 : WS) (H1 : Heap) (locs1 : List Loc), HI D cy z s ws0 ws1 H1 locs1 cells slots → (K ()).1 ws1 = some (rr, wsf) → W p l e R s m args below meth c H1 locs1 cells slots Q (F0 m (pc + 1) ls rest)) : W p l e R s m args below meth c H locs cells slots Q (F0 m pc ls (.long x :: .int i :: va_rf r :: rest)) := by
  obtain ⟨u, t, h1, h2⟩ := bd_some hF
  obtain ⟨a, x0, y0, rfl, ha, hi, hg, rfl⟩ := m_as_some h1
  split at hg
  · next n f =>
    cases hg
    refine W.last hx hb (hH.1.2 a _ ha).2 ((hk.1.2 4 _ (m_tys_at cy (by decide))).1 n (fun j => .long (f j))) (fun q => by cases q) (by show ¬ (i < 0 ∨ (arrV _ _ _).slots.size ≤ _); rw [arrV_size]; exact hi) rfl rfl hdg fun H1 e1 z1 oq => ?_
    refine kk _ H1 _ (hH.put ha z1 oq ?_) h2
    show H1[a]? = some (vp_cell _ _)
    rw [e1]
    rw [vp_cell_l, vp_cell_l, arrV_store]
    congr 2
    funext q
    by_cases hq : q = i.toNatClampNeg
    · subst hq
      simp [updV, vp_updL]
    · simp [updV, vp_updL, hq]
  · cases hg
theorem m_sF (hx : p.tables.exec = Jvm.exec) (hb : c.code = cc) (hk : KK D cy s) (hH : HI D cy z s ws0 ws H locs cells slots) {r : Option Nat} {i : Int32} {x : UInt32} {K : Unit → St β} (hF : (bd (sF r i x) K).1 ws = some (rr, wsf)) (hdg : decode cc pc = .ok (.fastore, 1))
    (kk : ∀ (ws1 : WS) (H1 : Heap) (locs1 : List Loc), HI D cy z s ws0 ws1 H1 locs1 cells slots → (K ()).1 ws1 = some (rr, wsf) → W p l e R s m args below meth c H1 locs1 cells slots Q (F0 m (pc + 1) ls rest)) : W p l e R s m args below meth c H locs cells slots Q (F0 m pc ls (.float x :: .int i :: va_rf r :: rest)) := by
  obtain ⟨u, t, h1, h2⟩ := bd_some hF
  obtain ⟨a, x0, y0, rfl, ha, hi, hg, rfl⟩ := m_as_some h1
  split at hg
  · next n f =>
    cases hg
    refine W.fast hx hb (hH.1.2 a _ ha).2 ((hk.1.2 5 _ (m_tys_at cy (by decide))).1 n (fun j => .float (f j))) (fun q => by cases q) (by show ¬ (i < 0 ∨ (arrV _ _ _).slots.size ≤ _); rw [arrV_size]; exact hi) rfl rfl hdg fun H1 e1 z1 oq => ?_
    refine kk _ H1 _ (hH.put ha z1 oq ?_) h2
    show H1[a]? = some (vp_cell _ _)
    rw [e1]
    rw [vp_cell_f, vp_cell_f, arrV_store]
    congr 2
    funext q
    by_cases hq : q = i.toNatClampNeg
    · subst hq
      simp [updV, vf_upd]
    · simp [updV, vf_upd, hq]
  · cases hg
theorem m_sD (hx : p.tables.exec = Jvm.exec) (hb : c.code = cc) (hk : KK D cy s) (hH : HI D cy z s ws0 ws H locs cells slots) {r : Option Nat} {i : Int32} {x : UInt64} {K : Unit → St β} (hF : (bd (sD r i x) K).1 ws = some (rr, wsf)) (hdg : decode cc pc = .ok (.dastore, 1))
    (kk : ∀ (ws1 : WS) (H1 : Heap) (locs1 : List Loc), HI D cy z s ws0 ws1 H1 locs1 cells slots → (K ()).1 ws1 = some (rr, wsf) → W p l e R s m args below meth c H1 locs1 cells slots Q (F0 m (pc + 1) ls rest)) : W p l e R s m args below meth c H locs cells slots Q (F0 m pc ls (.double x :: .int i :: va_rf r :: rest)) := by
  obtain ⟨u, t, h1, h2⟩ := bd_some hF
  obtain ⟨a, x0, y0, rfl, ha, hi, hg, rfl⟩ := m_as_some h1
  split at hg
  · next n f =>
    cases hg
    refine W.dast hx hb (hH.1.2 a _ ha).2 ((hk.1.2 6 _ (m_tys_at cy (by decide))).1 n (fun j => .double (f j))) (fun q => by cases q) (by show ¬ (i < 0 ∨ (arrV _ _ _).slots.size ≤ _); rw [arrV_size]; exact hi) rfl rfl hdg fun H1 e1 z1 oq => ?_
    refine kk _ H1 _ (hH.put ha z1 oq ?_) h2
    show H1[a]? = some (vp_cell _ _)
    rw [e1]
    rw [vp_cell_d, vp_cell_d, arrV_store]
    congr 2
    funext q
    by_cases hq : q = i.toNatClampNeg
    · subst hq
      simp [updV, vf_upd]
    · simp [updV, vf_upd, hq]
  · cases hg
end ROWS
