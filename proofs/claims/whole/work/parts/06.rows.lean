/-! ===== the machine's rows over pure worlds ===== -/
theorem m_ob_some {cs : List Nat} {r : Option Nat} {h : Nat → Option PE} {fs : List Value} (e : m_ob cs r h = some fs) : ∃ a ci, r = some a ∧ ci ∈ cs ∧ h a = some (.inr (ci, fs)) := by
  unfold m_ob at e
  split at e
  · cases e
  · next a =>
    split at e
    · next o ho =>
      split at e
      · next hc => cases e; exact ⟨a, o.1, rfl, hc, ho⟩
      · cases e
    · cases e
theorem m_ar_some {t : Nat} {r : Option Nat} {h : Nat → Option PE} {x : vp_A} (e : m_ar t r h = some x) : ∃ a, r = some a ∧ h a = some (.inl (t, x)) := by
  unfold m_ar at e
  split at e
  · cases e
  · next a =>
    split at e
    · next y hy =>
      split at e
      · next hc => cases e; subst hc; exact ⟨a, rfl, hy⟩
      · cases e
    · cases e
/-- a field's link: by the class itself, or by a nest mate -/
def LK (own : String) (idx : Nat) (ref name desc : String) : Prop := WD (.fieldLink own idx ref name desc) ∨ ∃ host, WD (.fieldLinkNest own idx ref name desc host)
theorem m_vin {i : Int32} {n : Nat} (h : ¬ (i < 0 ∨ n ≤ i.toNatClampNeg)) : vp_in i n := h
theorem m_nrf (C : String) (r : Option Nat) : narrow (.object C) (va_rf r) = va_rf r := by cases r <;> rfl
theorem m_frf (C : String) (r : Option Nat) : fits (.object C) (va_rf r) = true := by cases r <;> rfl
theorem m_nra (t : FieldType) (r : Option Nat) : narrow (.array t) (va_rf r) = va_rf r := by cases r <;> rfl
theorem m_fra (t : FieldType) (r : Option Nat) : fits (.array t) (va_rf r) = true := by cases r <;> rfl
theorem m_cat (r : Option Nat) : (va_rf r).category = 1 := by cases r <;> rfl
section ROWS
variable {p : Program} {l : Launch} {e : Env} {R : Room} {s : State} {m : MethodId} {args : Array Value} {below : List Frame} {meth : Method} {c : Code} {H : Heap} {locs : List Loc} {cells slots : Nat} {Q : State → Prop}
variable {cc : ByteArray} {pc : Nat} {ls : Array Slot} {rest : List Value} {D : va_G} {cy : Nat → ClassId} {z : Nat} {ws0 ws wsf : WS} {β : Type} {rr : β} {own : String}
/-- a read of a field: any value -/
theorem m_get (hx : p.tables.exec = Jvm.exec) (hb : c.code = cc) (hown : s.vm.findClass own = some m.cls) (hk : KK D cy s) (hH : HI D cy z s ws0 ws H locs cells slots) {cs : List Nat} {k idx : Nat} {r : Option Nat} {ref name desc : String} {fin : Bool} {fs : List Value} {v : Value} (ho : m_ob cs r ws.1 = some fs) (hv : fs[k]? = some v) (hfk : cs.all (fkOk k ref name desc fin) = true) (hlk : LK own idx ref name desc) (hdg : decode cc pc = .ok (.getfield idx, 3))
    (kk : W p l e R s m args below meth c H locs cells slots Q (F0 m (pc + 3) ls (v :: rest))) : W p l e R s m args below meth c H locs cells slots Q (F0 m pc ls (va_rf r :: rest)) := by
  obtain ⟨a, ci, rfl, hci, ha⟩ := m_ob_some ho
  obtain ⟨q, hq, hkn, hqk⟩ := fk_of hfk hci
  have e1 : (q.2.1 k).1 = ref := by rw [hqk]
  have e2 : (q.2.1 k).2.1 = name := by rw [hqk]
  have e3 : (q.2.1 k).2.2.1 = desc := by rw [hqk]
  rcases hlk with hl | ⟨host, hl⟩
  · exact va_get (D := D) (ref := ref) (ci := ci) (C := q.1) (T := q.2.1) (N := q.2.2) hx hb (m_wds hk args) (m_in hq) hown hk.1 (hH.P ha) 0 rfl hq k hkn (by rw [e2, e3]; exact hk.wd hl args) (fun x hx => by rw [e1] at hx; exact hx) hv hdg kk
  · exact va_getN (D := D) (ref := ref) (ci := ci) (C := q.1) (T := q.2.1) (N := q.2.2) (host := host) hx hb (m_wds hk args) (m_in hq) hown hk.1 (hH.P ha) 0 rfl hq k hkn (by rw [e2, e3]; exact hk.wd hl args) (fun x hx => by rw [e1] at hx; exact hx) hv hdg kk
theorem m_gI (hx : p.tables.exec = Jvm.exec) (hb : c.code = cc) (hown : s.vm.findClass own = some m.cls) (hk : KK D cy s) (hH : HI D cy z s ws0 ws H locs cells slots) {cs : List Nat} {k idx : Nat} {r : Option Nat} {ref name desc : String} {fin : Bool} {K : Int32 → St β} (hF : (bd (gI cs k r) K).1 ws = some (rr, wsf)) (hfk : cs.all (fkOk k ref name desc fin) = true) (hlk : LK own idx ref name desc) (hdg : decode cc pc = .ok (.getfield idx, 3))
    (kk : ∀ x : Int32, (K x).1 ws = some (rr, wsf) → W p l e R s m args below meth c H locs cells slots Q (F0 m (pc + 3) ls (.int x :: rest))) : W p l e R s m args below meth c H locs cells slots Q (F0 m pc ls (va_rf r :: rest)) := by
  obtain ⟨x, t, h1, h2⟩ := bd_some hF
  obtain ⟨h3, rfl⟩ := rd_some h1
  split at h3
  · cases h3
  · next fs hfs =>
    split at h3
    · next y hy =>
      cases h3
      exact m_get hx hb hown hk hH hfs hy hfk hlk hdg (kk _ h2)
    · cases h3
theorem m_gL (hx : p.tables.exec = Jvm.exec) (hb : c.code = cc) (hown : s.vm.findClass own = some m.cls) (hk : KK D cy s) (hH : HI D cy z s ws0 ws H locs cells slots) {cs : List Nat} {k idx : Nat} {r : Option Nat} {ref name desc : String} {fin : Bool} {K : Int64 → St β} (hF : (bd (gL cs k r) K).1 ws = some (rr, wsf)) (hfk : cs.all (fkOk k ref name desc fin) = true) (hlk : LK own idx ref name desc) (hdg : decode cc pc = .ok (.getfield idx, 3))
    (kk : ∀ x : Int64, (K x).1 ws = some (rr, wsf) → W p l e R s m args below meth c H locs cells slots Q (F0 m (pc + 3) ls (.long x :: rest))) : W p l e R s m args below meth c H locs cells slots Q (F0 m pc ls (va_rf r :: rest)) := by
  obtain ⟨x, t, h1, h2⟩ := bd_some hF
  obtain ⟨h3, rfl⟩ := rd_some h1
  split at h3
  · cases h3
  · next fs hfs =>
    split at h3
    · next y hy =>
      cases h3
      exact m_get hx hb hown hk hH hfs hy hfk hlk hdg (kk _ h2)
    · cases h3
theorem m_gD (hx : p.tables.exec = Jvm.exec) (hb : c.code = cc) (hown : s.vm.findClass own = some m.cls) (hk : KK D cy s) (hH : HI D cy z s ws0 ws H locs cells slots) {cs : List Nat} {k idx : Nat} {r : Option Nat} {ref name desc : String} {fin : Bool} {K : UInt64 → St β} (hF : (bd (gD cs k r) K).1 ws = some (rr, wsf)) (hfk : cs.all (fkOk k ref name desc fin) = true) (hlk : LK own idx ref name desc) (hdg : decode cc pc = .ok (.getfield idx, 3))
    (kk : ∀ x : UInt64, (K x).1 ws = some (rr, wsf) → W p l e R s m args below meth c H locs cells slots Q (F0 m (pc + 3) ls (.double x :: rest))) : W p l e R s m args below meth c H locs cells slots Q (F0 m pc ls (va_rf r :: rest)) := by
  obtain ⟨x, t, h1, h2⟩ := bd_some hF
  obtain ⟨h3, rfl⟩ := rd_some h1
  split at h3
  · cases h3
  · next fs hfs =>
    split at h3
    · next y hy =>
      cases h3
      exact m_get hx hb hown hk hH hfs hy hfk hlk hdg (kk _ h2)
    · cases h3
theorem m_gR (hx : p.tables.exec = Jvm.exec) (hb : c.code = cc) (hown : s.vm.findClass own = some m.cls) (hk : KK D cy s) (hH : HI D cy z s ws0 ws H locs cells slots) {cs : List Nat} {k idx : Nat} {r : Option Nat} {ref name desc : String} {fin : Bool} {K : Option Nat → St β} (hF : (bd (gR cs k r) K).1 ws = some (rr, wsf)) (hfk : cs.all (fkOk k ref name desc fin) = true) (hlk : LK own idx ref name desc) (hdg : decode cc pc = .ok (.getfield idx, 3))
    (kk : ∀ x : Option Nat, (K x).1 ws = some (rr, wsf) → W p l e R s m args below meth c H locs cells slots Q (F0 m (pc + 3) ls (va_rf x :: rest))) : W p l e R s m args below meth c H locs cells slots Q (F0 m pc ls (va_rf r :: rest)) := by
  obtain ⟨x, t, h1, h2⟩ := bd_some hF
  obtain ⟨h3, rfl⟩ := rd_some h1
  split at h3
  · cases h3
  · next fs hfs =>
    split at h3
    · next y hy =>
      cases h3
      exact m_get hx hb hown hk hH hfs hy hfk hlk hdg (kk _ h2)
    · next hy =>
      cases h3
      exact m_get hx hb hown hk hH hfs hy hfk hlk hdg (kk _ h2)
    · cases h3
theorem pV_some {cs : List Nat} {k : Nat} {r : Option Nat} {v : Value} {s t : WS} {u : Unit} (h : (pV cs k r v).1 s = some (u, t)) : ∃ a ci fs, r = some a ∧ ci ∈ cs ∧ k < fs.length ∧ s.1 a = some (.inr (ci, fs)) ∧ t = (m_up s.1 a (.inr (ci, fs.set k v)), s.2) := by
  unfold pV at h
  split at h
  · cases h
  · next a =>
    obtain ⟨e1, e2, h1, h2, h3⟩ := wr_some h
    split at h2
    · next o =>
      split at h2
      · next hc =>
        cases h2
        exact ⟨a, o.1, o.2, rfl, hc.1, hc.2, h1, h3⟩
      · cases h2
    · cases h2
/-- what a stored field leaves -/
theorem m_ob_put (own : String) (args : Array Value) {ci : Nat} {q : vw_C} (hq : vwCl[ci]? = some q) (hk : KK D cy s) {a k : Nat} (hkn : k < q.2.2) {fs : List Value} (hl : k < fs.length) {v : Value} {cell : Cell} {H1 : Heap} (q2 : cell.cls = D.1 ci) (q3 : cell.vm = .none) (q4 : ∀ j, j < q.2.2 → cell.slots[D.2 ci j]? = some (vp_V fs j)) (e1 : H1[a]? = some (cell.setSlot (D.2 ci k) v)) : va_at D vwCl (a, m_tr cy (.inr (ci, fs.set k v))) H1 := by
  have hap := va_apart (own := own) (s := s) (args := args) (D := D) (tys := m_tys cy) (m_wds hk args) (m_in hq) (m_ty q) (m_tyok hq) (m_nm hq) hk.1 hq
  exact ⟨q, hq, t_OB.to (V := updV (vp_V fs) k v) ⟨_, e1, q2, q3, t_set q4 hap hkn v⟩ (fun j _ => vp_updV_set hl v j)⟩
/-- a field of the own class, or of a nest mate, that isn't final -/
theorem m_pV (hx : p.tables.exec = Jvm.exec) (hb : c.code = cc) (hown : s.vm.findClass own = some m.cls) (hk : KK D cy s) (hH : HI D cy z s ws0 ws H locs cells slots) {cs : List Nat} {k idx : Nat} {r : Option Nat} {v : Value} {ref name desc : String} {K : Unit → St β} (hF : (bd (pV cs k r v) K).1 ws = some (rr, wsf)) (hfk : cs.all (fkOk k ref name desc false) = true) (hlk : LK own idx ref name desc) {ty : FieldType} (hty : parseFieldDescriptor desc = some ty) (hn : narrow ty v = v) (hfit : fits ty v = true) (hdg : decode cc pc = .ok (.putfield idx, 3))
    (kk : ∀ (ws1 : WS) (H1 : Heap) (locs1 : List Loc), HI D cy z s ws0 ws1 H1 locs1 cells slots → (K ()).1 ws1 = some (rr, wsf) → W p l e R s m args below meth c H1 locs1 cells slots Q (F0 m (pc + 3) ls rest)) : W p l e R s m args below meth c H locs cells slots Q (F0 m pc ls (v :: va_rf r :: rest)) := by
  obtain ⟨u, t, h1, h2⟩ := bd_some hF
  obtain ⟨a, ci, fs, rfl, hci, hlen, ha, rfl⟩ := pV_some h1
  obtain ⟨q, hq, hkn, hqk⟩ := fk_of hfk hci
  obtain ⟨r', hr', cell, q1, q2, q3, q4⟩ := (hH.1.2 a _ ha).2
  cases hq.symm.trans hr'
  obtain ⟨hS, hfc, kC, hkC, hkind⟩ := hk.1.1 ci _ hq
  obtain ⟨cf, kf, fi, f, hi, hsl⟩ := hS k hkn
  have hlay := m_wds hk args _ (m_in hq _ (u_in_lay hkn))
  unfold u_lay at hlay
  rw [if_neg (by rw [hqk]; simp)] at hlay
  have hst := (u_facts hfc hkC (u_lays (m_wds hk args) (m_in hq) hkn) hi).1
  have h6 := u_store hfc hkC hkind hlay hi (by rw [hqk]; exact hty) hn hfit
  have hi2 : s.fieldFound? ref name desc = some (cf, kf, fi, f) := by rw [hqk] at hi; exact hi
  rcases hlk with hl | ⟨host, hl⟩
  · refine W.putK hx hb (f := f) (ref := ref) (name := name) (desc := desc) ⟨hown, hk.wd hl args, ⟨_, _, _, hi2⟩, hst⟩ (by rw [q2]; exact h6) q1 q3 (by rw [hsl]; exact k2_hasslot (q4 k hkn)) rfl rfl hdg fun H' e1 e2 e3 => ?_
    rw [hsl] at e1 ⊢
    exact kk _ H' _ (hH.put (e := .inr (ci, fs.set k v)) ha e2 e3 (m_ob_put own args hq hk hkn hlen q2 q3 q4 e1)) h2
  · refine va_WputK hx hb (f := f) (ref := ref) (name := name) (desc := desc) hown (hk.wd hl args) hi2 hst (by rw [q2]; exact h6) q1 q3 (by rw [hsl]; exact k2_hasslot (q4 k hkn)) rfl rfl hdg fun H' e1 e2 e3 => ?_
    rw [hsl] at e1 ⊢
    exact kk _ H' _ (hH.put (e := .inr (ci, fs.set k v)) ha e2 e3 (m_ob_put own args hq hk hkn hlen q2 q3 q4 e1)) h2
/-- a final field of the own class, in its constructor -/
theorem m_pVF (hx : p.tables.exec = Jvm.exec) (hb : c.code = cc) (hown : s.vm.findClass own = some m.cls) (hk : KK D cy s) (hH : HI D cy z s ws0 ws H locs cells slots) (hinit : meth.name = "<init>") {cs : List Nat} {k idx : Nat} {r : Option Nat} {v : Value} {ref name desc : String} {K : Unit → St β} (hF : (bd (pV cs k r v) K).1 ws = some (rr, wsf)) (hfk : cs.all (fkOk k ref name desc true) = true) (hlk : WD (.fieldLink own idx ref name desc)) (hro : ref = own) {ty : FieldType} (hty : parseFieldDescriptor desc = some ty) (hn : narrow ty v = v) (hfit : fits ty v = true) (hdg : decode cc pc = .ok (.putfield idx, 3))
    (kk : ∀ (ws1 : WS) (H1 : Heap) (locs1 : List Loc), HI D cy z s ws0 ws1 H1 locs1 cells slots → (K ()).1 ws1 = some (rr, wsf) → W p l e R s m args below meth c H1 locs1 cells slots Q (F0 m (pc + 3) ls rest)) : W p l e R s m args below meth c H locs cells slots Q (F0 m pc ls (v :: va_rf r :: rest)) := by
  obtain ⟨u, t, h1, h2⟩ := bd_some hF
  obtain ⟨a, ci, fs, rfl, hci, hlen, ha, rfl⟩ := pV_some h1
  obtain ⟨q, hq, hkn, hqk⟩ := fk_of hfk hci
  obtain ⟨r', hr', cell, q1, q2, q3, q4⟩ := (hH.1.2 a _ ha).2
  cases hq.symm.trans hr'
  obtain ⟨hS, hfc, kC, hkC, hkind⟩ := hk.1.1 ci _ hq
  obtain ⟨cf, kf, fi, f, hi, hsl⟩ := hS k hkn
  have hlay := m_wds hk args _ (m_in hq _ (u_in_lay hkn))
  unfold u_lay at hlay
  rw [if_pos (by rw [hqk])] at hlay
  have hst := (u_facts hfc hkC (u_lays (m_wds hk args) (m_in hq) hkn) hi).1
  have hcf : m.cls = cf := by
    obtain ⟨_, _, c', _, _, _, -, -, hf', -, -, -, hown2, -⟩ := Cond.laysFinal_spec hlay
    have e1 : c' = cf := by have := hi.symm.trans hf'; simp at this; exact this.1.symm
    rw [hqk] at hown2
    dsimp only at hown2
    rw [hro] at hown2
    rw [← e1]; exact Option.some.inj (hown.symm.trans hown2)
  have h6 := u_fits hfc hkC hkind (Or.inr hlay) hi (by rw [hqk]; exact hty) hn hfit
  have hi2 : s.fieldFound? ref name desc = some (cf, kf, fi, f) := by rw [hqk] at hi; exact hi
  refine W.putFinK hx hb hown (hk.wd hlk args) hi2 hst hcf hinit (by rw [q2]; exact h6) q1 q3 (by rw [hsl]; exact k2_hasslot (q4 k hkn)) rfl rfl hdg fun H' e1 e2 e3 => ?_
  rw [hsl] at e1 ⊢
  exact kk _ H' _ (hH.put (e := .inr (ci, fs.set k v)) ha e2 e3 (m_ob_put own args hq hk hkn hlen q2 q3 q4 e1)) h2
end ROWS
