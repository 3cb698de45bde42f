/-! ===== what holds of the tables all along ===== -/
def m_aty (t : Nat) : FieldType := match t with
  | 0 => .int
  | 1 => .byte
  | 2 => .char
  | 3 => .short
  | 4 => .long
  | 5 => .float
  | 6 => .double
  | 7 => .boolean
  | 8 => .object RX8
  | 9 => .object RX1
  | 10 => .object RX6
  | _ => .object RX9
def m_tys (cy : Nat → ClassId) : List (ClassId × FieldType) := (List.range 12).map fun t => (cy t, m_aty t)
theorem m_tys_at (cy : Nat → ClassId) {t : Nat} (h : t < 12) : (m_tys cy)[t]? = some (cy t, m_aty t) := by
  simp [m_tys, h]
def okw (w : Cond) : Bool := match w with
  | .fieldLinkNest _ _ _ _ _ _ => true
  | .methodLinkNest _ _ _ _ => true
  | .declares _ => true
  | .castable _ _ => true
  | .arrayOver (.object _) => true
  | w => goodWord w
/-- the tables' words, in any state that comes of the start -/
def KK (D : va_G) (cy : Nat → ClassId) (U : State) : Prop := va_K D vwCl (m_tys cy) U ∧ ∀ w ∈ lw_tbl, okw w = true → w.before #[] U = true
theorem okw_moved {w : Cond} {s U : State} {a a' : Array Value} (ho : okw w = true) (hW : s.WarmedH U.vm) (h : w.before a s = true) : w.before a' U = true := by
  unfold okw at ho
  split at ho
  · exact va_Nw.use rfl (va_Nw.warmF hW (va_Nw.of rfl h))
  · exact va_Nw.use rfl (va_Nw.warmM hW (va_Nw.of rfl h))
  · exact va_Nw.use rfl (va_Nw.warmD hW (va_Nw.of rfl h))
  · exact va_Nw.use rfl (va_Nw.warmC hW (va_Nw.of rfl h))
  · exact va_AO.use (va_AO.moved hW.alike (va_AO.of h))
  · exact word_at hW (good_of_word ho) h
theorem KK.moved {D : va_G} {cy : Nat → ClassId} {s U : State} (hW : s.WarmedH U.vm) (h : KK D cy s) : KK D cy U := ⟨va_K.moved hW.alike h.1, fun w hw ho => okw_moved ho hW (h.2 w hw ho)⟩
theorem KK.word {D : va_G} {cy : Nat → ClassId} {s : State} (h : KK D cy s) {w : Cond} (hw : w ∈ lw_tbl) (ho : okw w = true) {a : Array Value} : w.before a s = true := okw_moved ho (State.WarmedH.refl s) (h.2 w hw ho)
theorem KK.calling {D : va_G} {cy : Nat → ClassId} {U : State} (h : KK D cy U) (g : JFrame) (mk : MethodId) (a : Array Value) : KK D cy (U.calling g mk a) := KK.moved (s := U) (U := U.calling g mk a) (State.WarmedH.refl U) h
/-- a word that stands in the tables, and that stays -/
def WD (w : Cond) : Prop := w ∈ lw_tbl ∧ okw w = true
theorem KK.wd {D : va_G} {cy : Nat → ClassId} {s : State} (h : KK D cy s) {w : Cond} (hw : WD w) (a : Array Value) : w.before a s = true := h.word hw.1 hw.2
/-! ===== the classes' tables, by program ===== -/
theorem m_lays : vwCl.all (fun q => (u_ws q.1 q.2.1 q.2.2).all (fun w => decide (w ∈ lw_tbl) && okw w)) = true := by decide +kernel
def m_ty (q : vw_C) (k : Nat) : FieldType := (parseFieldDescriptor (q.2.1 k).2.2.1).getD .int
theorem m_tyc : vwCl.all (fun q => (List.range q.2.2).all (fun k => (parseFieldDescriptor (q.2.1 k).2.2.1).isSome)) = true := by decide +kernel
theorem m_nmc : vwCl.all (fun q => (List.range q.2.2).all (fun a => (List.range q.2.2).all (fun b => decide (a = b) || !decide ((q.2.1 a).2.1 = (q.2.1 b).2.1)))) = true := by decide +kernel
theorem m_wds {D : va_G} {cy : Nat → ClassId} {s : State} (h : KK D cy s) (a : Array Value) : ∀ w ∈ lw_tbl.filter okw, w.before a s = true := fun w hw => h.word (List.mem_filter.mp hw).1 (List.mem_filter.mp hw).2
theorem m_in {ci : Nat} {q : vw_C} (h : vwCl[ci]? = some q) : ∀ w ∈ u_ws q.1 q.2.1 q.2.2, w ∈ lw_tbl.filter okw := fun w hw => by
  have h1 := List.all_eq_true.mp (List.all_eq_true.mp m_lays q (List.mem_of_getElem? h)) w hw
  simp only [Bool.and_eq_true, decide_eq_true_eq] at h1
  exact List.mem_filter.mpr h1
theorem m_tyok {ci : Nat} {q : vw_C} (h : vwCl[ci]? = some q) : ∀ k, k < q.2.2 → parseFieldDescriptor (q.2.1 k).2.2.1 = some (m_ty q k) := fun k hk => by
  have h1 := List.all_eq_true.mp (List.all_eq_true.mp m_tyc q (List.mem_of_getElem? h)) k (List.mem_range.mpr hk)
  unfold m_ty
  obtain ⟨x, hx⟩ := Option.isSome_iff_exists.mp h1
  rw [hx]
  rfl
theorem m_nm {ci : Nat} {q : vw_C} (h : vwCl[ci]? = some q) : ∀ a, a < q.2.2 → ∀ b, b < q.2.2 → a ≠ b → (q.2.1 a).2.1 ≠ (q.2.1 b).2.1 := fun a ha b hb hne he => by
  have h1 := List.all_eq_true.mp (List.all_eq_true.mp (List.all_eq_true.mp m_nmc q (List.mem_of_getElem? h)) a (List.mem_range.mpr ha)) b (List.mem_range.mpr hb)
  simp [hne, he] at h1
/-- field k of the class ci is this one -/
def fkOk (k : Nat) (ref name desc : String) (fin : Bool) (ci : Nat) : Bool := match vwCl[ci]? with
  | some q => decide (k < q.2.2) && decide (q.2.1 k = (ref, name, desc, fin))
  | none => false
theorem fk_of {k : Nat} {ref name desc : String} {fin : Bool} {cs : List Nat} (h : cs.all (fkOk k ref name desc fin) = true) {ci : Nat} (hc : ci ∈ cs) : ∃ q, vwCl[ci]? = some q ∧ k < q.2.2 ∧ q.2.1 k = (ref, name, desc, fin) := by
  have h1 := List.all_eq_true.mp h ci hc
  unfold fkOk at h1
  split at h1
  · next q hq =>
    simp only [Bool.and_eq_true, decide_eq_true_eq] at h1
    exact ⟨q, hq, h1.1, h1.2⟩
  · cases h1
/-! ===== worlds and heaps ===== -/
def hpok (D : va_G) (cy : Nat → ClassId) (z : Nat) (ws : WS) (H : Heap) : Prop := H.size = ws.2.1 ∧ ∀ a e, ws.1 a = some e → z ≤ a ∧ va_at D vwCl (a, m_tr cy e) H
def AC (ws0 ws : WS) (cells slots : Nat) : Prop := ws0.2.1 + cells = ws.2.1 ∧ ws0.2.2 + slots = ws.2.2
def HI (D : va_G) (cy : Nat → ClassId) (z : Nat) (s : State) (ws0 ws : WS) (H : Heap) (locs : List Loc) (cells slots : Nat) : Prop := hpok D cy z ws H ∧ va_S (fun q => z ≤ q) s.heap H locs ∧ AC ws0 ws cells slots
def Pm (D : va_G) (cy : Nat → ClassId) (z : Nat) (ws : WS) (av : List Value) : Array Value → State → Prop := fun v U => v = av.toArray ∧ hpok D cy z ws U.heap ∧ KK D cy U ∧ z ≤ U.heap.size
def Qm (D : va_G) (cy : Nat → ClassId) (z : Nat) (r : Option Value) (ws : WS) : Array Value → State → Outcome → State → Prop := fun _ st oc t => oc = .returned r ∧ hpok D cy z ws t.heap ∧ va_F (fun q => z ≤ q) st t
/-- a method's contract: it does what the computation F does -/
def MT (l : Launch) (D : va_G) (cy : Nat → ClassId) (z : Nat) (y : MethodName) (cc : ByteArray) (nL : Nat) (ret : Option FieldType) (fr lo : Nat) {α : Type} (F : St α) (val : α → Option Value) (av : List Value) : Prop := ∀ (ws : WS) (r : α) (wsf : WS) (mc ms : Nat), F.1 ws = some (r, wsf) → AC ws wsf mc ms → Met l y [.code y cc nL ret] { frames := fr, cells := mc, slots := ms, locals := lo } (Pm D cy z ws av) (Qm D cy z (val r) wsf) mc ms (fun q => z ≤ q)
def vI (x : Int32) : Option Value := some (.int x)
def vL (x : Int64) : Option Value := some (.long x)
def vF (x : UInt32) : Option Value := some (.float x)
def vD (x : UInt64) : Option Value := some (.double x)
def vR (x : Option Nat) : Option Value := some (va_rf x)
def vU (_ : Unit) : Option Value := none
theorem Pm.blind {D : va_G} {cy : Nat → ClassId} {z : Nat} {ws : WS} {av : List Value} : FrameBlind (Pm D cy z ws av) := fun a U g mk h => ⟨h.1, h.2.1, h.2.2.1.calling g mk a, h.2.2.2⟩
theorem hpok.put {D : va_G} {cy : Nat → ClassId} {z : Nat} {ws : WS} {H H1 : Heap} (h : hpok D cy z ws H) {a : Nat} {e0 e : PE} (ha : ws.1 a = some e0) (hz : H1.size = H.size) (oq : ∀ q, q ≠ a → H1[q]? = H[q]?) (he : va_at D vwCl (a, m_tr cy e) H1) : hpok D cy z (m_up ws.1 a e, ws.2) H1 := by
  refine ⟨hz.trans h.1, fun q x hq => ?_⟩
  by_cases hqa : q = a
  · subst hqa
    have h1 : m_up ws.1 q e q = some x := hq
    rw [m_up_self] at h1
    cases h1
    exact ⟨(h.2 q e0 ha).1, he⟩
  · have h1 : m_up ws.1 a e q = some x := hq
    rw [m_up_ne _ _ hqa] at h1
    exact ⟨(h.2 q x h1).1, (h.2 q x h1).2.kept (oq q hqa)⟩
theorem hpok.lt {D : va_G} {cy : Nat → ClassId} {z : Nat} {ws : WS} {H : Heap} (h : hpok D cy z ws H) {a : Nat} {e : PE} (ha : ws.1 a = some e) : a < H.size := (h.2 a e ha).2.lt
theorem hpok.push {D : va_G} {cy : Nat → ClassId} {z n : Nat} {ws : WS} {H H1 : Heap} (h : hpok D cy z ws H) {e : PE} (hz0 : z ≤ H.size) (hz : H1.size = H.size + 1) (oq : ∀ q, q < H.size → H1[q]? = H[q]?) (he : va_at D vwCl (H.size, m_tr cy e) H1) : hpok D cy z (m_up ws.1 ws.2.1 e, ws.2.1 + 1, ws.2.2 + n) H1 := by
  obtain ⟨h1, h2⟩ := h
  refine ⟨by rw [hz, h1], fun q x hq => ?_⟩
  by_cases hqa : q = ws.2.1
  · subst hqa
    have h3 : m_up ws.1 ws.2.1 e ws.2.1 = some x := hq
    rw [m_up_self] at h3
    cases h3
    rw [← h1]
    exact ⟨hz0, he⟩
  · have h3 : m_up ws.1 ws.2.1 e q = some x := hq
    rw [m_up_ne _ _ hqa] at h3
    exact ⟨(h2 q x h3).1, (h2 q x h3).2.kept (oq q (h2 q x h3).2.lt)⟩
theorem HI.P {D : va_G} {cy : Nat → ClassId} {z : Nat} {s : State} {ws0 ws : WS} {H : Heap} {locs : List Loc} {cells slots : Nat} (h : HI D cy z s ws0 ws H locs cells slots) {a : Nat} {e : PE} (ha : ws.1 a = some e) : va_P D vwCl [(a, m_tr cy e)] H := fun k q hk => by
  have hz : k < 1 := (List.getElem?_eq_some_iff.mp hk).1
  rw [show k = 0 by omega] at hk
  cases hk
  exact (h.1.2 a e ha).2
theorem HI.put {D : va_G} {cy : Nat → ClassId} {z : Nat} {s : State} {ws0 ws : WS} {H H1 : Heap} {locs : List Loc} {cells slots : Nat} (h : HI D cy z s ws0 ws H locs cells slots) {a k : Nat} {e0 e : PE} (ha : ws.1 a = some e0) (hz : H1.size = H.size) (oq : ∀ q, q ≠ a → H1[q]? = H[q]?) (he : va_at D vwCl (a, m_tr cy e) H1) : HI D cy z s ws0 (m_up ws.1 a e, ws.2) H1 (locs ++ [⟨a, k⟩]) cells slots :=
  ⟨h.1.put ha hz oq he, h.2.1.put hz oq (h.1.2 a e0 ha).1, h.2.2⟩
theorem HI.push {D : va_G} {cy : Nat → ClassId} {z n : Nat} {s : State} {ws0 ws : WS} {H H1 : Heap} {locs : List Loc} {cells slots : Nat} (h : HI D cy z s ws0 ws H locs cells slots) (hz0 : z ≤ s.heap.size) {e : PE} (hz : H1.size = H.size + 1) (oq : ∀ q, q < H.size → H1[q]? = H[q]?) (he : va_at D vwCl (H.size, m_tr cy e) H1) : HI D cy z s ws0 (m_up ws.1 ws.2.1 e, ws.2.1 + 1, ws.2.2 + n) H1 locs (cells + 1) (slots + n) :=
  ⟨h.1.push (Nat.le_trans hz0 h.2.1.1) hz oq he, ⟨Nat.le_trans h.2.1.1 (by omega), fun q h1 h2 => (oq q (Nat.lt_of_lt_of_le h1 h.2.1.1)).trans (h.2.1.2.1 q h1 h2), h.2.1.2.2⟩, by have h1 := h.2.2.1; have h2 := h.2.2.2; constructor <;> simp only <;> omega⟩
