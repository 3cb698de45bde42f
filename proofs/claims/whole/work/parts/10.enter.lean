/-! ===== a method's walk ===== -/
def Cx (D : va_G) (cy : Nat → ClassId) (z : Nat) (own : String) (cc : ByteArray) (nL : Nat) (ret : Option FieldType) (fr lo : Nat) (nm : String) (p : Program) (R : Room) (s : State) (m : MethodId) (meth : Method) (c : Code) : Prop :=
  p.tables.exec = Jvm.exec ∧ c.code = cc ∧ meth.sig.returnType = ret ∧ c.maxLocals = nL ∧ s.vm.findClass own = some m.cls ∧ KK D cy s ∧ z ≤ s.heap.size ∧ meth.locks = false ∧ meth.name = nm ∧ fr ≤ R.frames ∧ lo ≤ R.locals
/-- at pc, with these locals and this stack, in any world from which the computation B ends: so does the machine -/
abbrev At_ (l : Launch) (D : va_G) (cy : Nat → ClassId) (z : Nat) (p : Program) (e : Env) (R : Room) (s : State) (m : MethodId) (args : Array Value) (below : List Frame) (meth : Method) (c : Code) (ws0 wsf : WS) {β : Type} (val : β → Option Value) (rr : β) (nL pc : Nat) (lv : List (Nat × Value)) (st : List Value) (B : St β) : Prop :=
  ∀ (ws : WS) (H : Heap) (locs : List Loc) (cells slots : Nat) (ls : Array Slot), lv_has ls nL lv → HI D cy z s ws0 ws H locs cells slots → B.1 ws = some (rr, wsf) → W p l e R s m args below meth c H locs cells slots (MQ below (Qm D cy z (val rr) wsf) args s R.cells R.slots (fun q => z ≤ q)) (F0 m pc ls st)
theorem m_enter {l : Launch} {D : va_G} {cy : Nat → ClassId} {z : Nat} {y : MethodName} {cc : ByteArray} {nL : Nat} {ret : Option FieldType} {fr lo : Nat} {α : Type} {F : St α} {val : α → Option Value} {av : List Value} (lvs : List (Nat × Value)) (hy : plainName y.cls = true) (hav : lv_args 0 av = lvs) (hlen : (lg_sl av).length ≤ nL)
    (body : ∀ (p : Program) (e : Env) (R : Room) (s : State) (m : MethodId) (args : Array Value) (below : List Frame) (meth : Method) (c : Code) (ws0 wsf : WS) (rr : α), Cx D cy z y.cls cc nL ret fr lo y.name p R s m meth c → AC ws0 wsf R.cells R.slots → At_ l D cy z p e R s m args below meth c ws0 wsf val rr nL 0 lvs [] F) : MT l D cy z y cc nL ret fr lo F val av := by
  intro ws r wsf mc ms hF hA
  refine Met.ofW (cc := cc) (maxL := nL) (ret := ret) hy rfl ?_
  intro p e s m args below meth c s₁ B hml hv
  obtain ⟨rfl, hP, hK, hz⟩ := hv
  have hl := lv_entry av (n := nL) hlen
  rw [hav] at hl
  rw [lg_entry_eq]
  exact body p e _ s m _ below meth c ws wsf r ⟨B.exec, B.bytes, B.returns, hml, findClass_of_methodNamed B.named, hK, hz, B.notSynchronized, (name_of_methodNamed B.named B.method).1, Nat.le_refl _, Nat.le_refl _⟩ hA ws s.heap [] 0 0 _ hl ⟨hP, va_S.rf, ⟨rfl, rfl⟩⟩ hF
theorem bq_t {α : Type} {q : Prop} [Decidable q] {x y : St α} {ws : WS} {r : Option (α × WS)} (h : q) (hF : (br q x y).1 ws = r) : x.1 ws = r := by rw [br_pos h] at hF; exact hF
theorem bq_f {α : Type} {q : Prop} [Decidable q] {x y : St α} {ws : WS} {r : Option (α × WS)} (h : ¬ q) (hF : (br q x y).1 ws = r) : y.1 ws = r := by rw [br_neg h] at hF; exact hF
theorem ck_t {α : Type} {q : Prop} [Decidable q] {K : Unit → St α} {ws : WS} {r : α × WS} (hF : (bd (ck q) K).1 ws = some r) : q ∧ (K ()).1 ws = some r := by
  obtain ⟨u, t, h1, h2⟩ := bd_some hF
  obtain ⟨hq, rfl⟩ := ck_some h1
  exact ⟨hq, h2⟩
theorem rt_t {α β : Type} {a b : α} {K : α → St β} {ws : WS} {r : Option (β × WS)} (h : b = a) (hF : (bd (rt a) K).1 ws = r) : (K b).1 ws = r := by subst h; exact hF
theorem fl_t {α : Type} {ws : WS} {r : α × WS} {P : Prop} (hF : (fl : St α).1 ws = some r) : P := by cases hF
theorem m_nb {v : Int32} (h : v = 0 ∨ v = 1) : narrow .boolean (.int v) = .int v := by rcases h with rfl | rfl <;> rfl
theorem m_c3 {P : Nat → Prop} (h1 : P 3) (h2 : P 4) (h3 : P 6) : ∀ ci ∈ [3, 4, 6], P ci := fun ci h => by
  rcases List.mem_cons.mp h with rfl | h
  · exact h1
  · rcases List.mem_cons.mp h with rfl | h
    · exact h2
    · rcases List.mem_cons.mp h with rfl | h
      · exact h3
      · exact absurd h List.not_mem_nil
theorem m_c1 {P : Nat → Prop} {k : Nat} (h1 : P k) : ∀ ci ∈ [k], P ci := fun ci h => by rw [List.mem_singleton.mp h]; exact h1
/-- which of three, by the class -/
def vd {α : Type} (ci : Nat) (a b c : α) : α := if ci = 3 then a else if ci = 4 then b else c
/-- how often a loop may go round -/
def FU : Nat := 5000
theorem m_le {ls : Array Slot} {n : Nat} {l : List (Nat × Value)} (h : lv_has ls n l) : ls.size = n := h.1
theorem m_cells {D : va_G} {cy : Nat → ClassId} {z : Nat} {s : State} {ws0 ws wsf : WS} {H : Heap} {locs : List Loc} {cells slots : Nat} {R : Room} {β : Type} {B : St β} {rr : β} (hH : HI D cy z s ws0 ws H locs cells slots) (hE : AL ws0 wsf R.cells R.slots) (hF : B.1 ws = some (rr, wsf)) : cells ≤ R.cells ∧ slots ≤ R.slots := m_room (a := 0) (b := 0) hH hE (t := ws) rfl rfl (B.2 _ _ _ hF)
