/-! ===== the pure machine: cells, worlds, computations ===== -/
/-- a pure cell: an array (code of its type, length, contents) or an object (number of its class, fields) -/
abbrev PE : Type := (Nat × vp_A) ⊕ (Nat × List Value)
def m_tr (cy : Nat → ClassId) (e : PE) : va_E := match e with
  | .inl a => .inl (cy a.1, a.2)
  | .inr o => .inr o
/-- a pure world: the cells, how many cells the heap has, how many slots were made -/
abbrev WS : Type := (Nat → Option PE) × Nat × Nat
/-- a computation: it may stop, the heap only grows -/
def St (α : Type) : Type := { f : WS → Option (α × WS) // ∀ s a t, f s = some (a, t) → s.2.1 ≤ t.2.1 ∧ s.2.2 ≤ t.2.2 }
def rt {α : Type} (a : α) : St α := ⟨fun s => some (a, s), fun s b t h => by cases h; exact ⟨Nat.le_refl _, Nat.le_refl _⟩⟩
def fl {α : Type} : St α := ⟨fun _ => none, fun s b t h => by cases h⟩
def bd {α β : Type} (c : St α) (k : α → St β) : St β := ⟨fun s => match c.1 s with
  | none => none
  | some q => (k q.1).1 q.2, fun s b t h => by
    dsimp only at h
    split at h
    · cases h
    · next q hq =>
      have h1 := c.2 s q.1 q.2 hq
      have h2 := (k q.1).2 q.2 b t h
      exact ⟨Nat.le_trans h1.1 h2.1, Nat.le_trans h1.2 h2.2⟩⟩
def br {α : Type} (c : Prop) [Decidable c] (x y : St α) : St α := if c then x else y
/-- reads that leave the world as it is -/
def rd {α : Type} (f : (Nat → Option PE) → Option α) : St α := ⟨fun s => match f s.1 with
  | none => none
  | some a => some (a, s), fun s b t h => by
    dsimp only at h
    split at h
    · cases h
    · cases h
      exact ⟨Nat.le_refl _, Nat.le_refl _⟩⟩
def m_up (h : Nat → Option PE) (a : Nat) (e : PE) : Nat → Option PE := fun q => if q = a then some e else h q
/-- a write of one cell -/
def wr (a : Nat) (f : PE → Option PE) : St Unit := ⟨fun s => match s.1 a with
  | none => none
  | some e => match f e with
    | none => none
    | some e2 => some ((), (m_up s.1 a e2, s.2)), fun s b t h => by
    dsimp only at h
    split at h
    · cases h
    · split at h
      · cases h
      · cases h
        exact ⟨Nat.le_refl _, Nat.le_refl _⟩⟩
/-- a new cell of n slots -/
def mk (n : Nat) (e : PE) : St Nat := ⟨fun s => some (s.2.1, (m_up s.1 s.2.1 e, s.2.1 + 1, s.2.2 + n)), fun s b t h => by
    cases h
    exact ⟨Nat.le_succ _, Nat.le_add_right _ _⟩⟩
theorem bd_some {α β : Type} {c : St α} {k : α → St β} {s : WS} {r : β × WS} (h : (bd c k).1 s = some r) : ∃ a t, c.1 s = some (a, t) ∧ (k a).1 t = some r := by
  unfold bd at h
  dsimp only at h
  split at h
  · cases h
  · next q hq => exact ⟨q.1, q.2, hq, h⟩
theorem bd_of {α β : Type} {c : St α} {k : α → St β} {s t : WS} {a : α} {r : Option (β × WS)} (h : c.1 s = some (a, t)) (h2 : (k a).1 t = r) : (bd c k).1 s = r := by
  unfold bd
  dsimp only
  rw [h]
  exact h2
theorem br_pos {α : Type} {c : Prop} [Decidable c] {x y : St α} (h : c) : br c x y = x := if_pos h
theorem br_neg {α : Type} {c : Prop} [Decidable c] {x y : St α} (h : ¬ c) : br c x y = y := if_neg h
theorem rd_some {α : Type} {f : (Nat → Option PE) → Option α} {s t : WS} {a : α} (h : (rd f).1 s = some (a, t)) : f s.1 = some a ∧ t = s := by
  unfold rd at h
  dsimp only at h
  split at h
  · cases h
  · next x hx => cases h; exact ⟨hx, rfl⟩
theorem rd_of {α : Type} {f : (Nat → Option PE) → Option α} {s : WS} {a : α} (h : f s.1 = some a) : (rd f).1 s = some (a, s) := by
  unfold rd
  dsimp only
  rw [h]
theorem wr_some {a : Nat} {f : PE → Option PE} {s t : WS} {u : Unit} (h : (wr a f).1 s = some (u, t)) : ∃ e e2, s.1 a = some e ∧ f e = some e2 ∧ t = (m_up s.1 a e2, s.2) := by
  unfold wr at h
  dsimp only at h
  split at h
  · cases h
  · next e he =>
    split at h
    · cases h
    · next e2 he2 => cases h; exact ⟨e, e2, he, he2, rfl⟩
theorem wr_of {a : Nat} {f : PE → Option PE} {s : WS} {e e2 : PE} (h : s.1 a = some e) (h2 : f e = some e2) : (wr a f).1 s = some ((), (m_up s.1 a e2, s.2)) := by
  unfold wr
  dsimp only
  rw [h]
  dsimp only
  rw [h2]
theorem m_up_self (h : Nat → Option PE) (a : Nat) (e : PE) : m_up h a e a = some e := if_pos rfl
theorem m_up_ne (h : Nat → Option PE) {a q : Nat} (e : PE) (hq : q ≠ a) : m_up h a e q = h q := if_neg hq
/-! ===== the operations ===== -/
/-- the fields of the object at r, whose class is one of cs -/
def m_ob (cs : List Nat) (r : Option Nat) (h : Nat → Option PE) : Option (List Value) := match r with
  | none => none
  | some a => match h a with
    | some (.inr o) => if o.1 ∈ cs then some o.2 else none
    | _ => none
def gI (cs : List Nat) (k : Nat) (r : Option Nat) : St Int32 := rd fun h => match m_ob cs r h with
  | none => none
  | some fs => match fs[k]? with
    | some (.int x) => some x
    | _ => none
def gL (cs : List Nat) (k : Nat) (r : Option Nat) : St Int64 := rd fun h => match m_ob cs r h with
  | none => none
  | some fs => match fs[k]? with
    | some (.long x) => some x
    | _ => none
def gD (cs : List Nat) (k : Nat) (r : Option Nat) : St UInt64 := rd fun h => match m_ob cs r h with
  | none => none
  | some fs => match fs[k]? with
    | some (.double x) => some x
    | _ => none
def gR (cs : List Nat) (k : Nat) (r : Option Nat) : St (Option Nat) := rd fun h => match m_ob cs r h with
  | none => none
  | some fs => match fs[k]? with
    | some (.ref x) => some (some x)
    | some .null => some none
    | _ => none
/-- a field gets a value -/
def pV (cs : List Nat) (k : Nat) (r : Option Nat) (v : Value) : St Unit := match r with
  | none => fl
  | some a => wr a fun e => match e with
    | .inr o => if o.1 ∈ cs ∧ k < o.2.length then some (.inr (o.1, o.2.set k v)) else none
    | _ => none
/-- the array at r, of the type t -/
def m_ar (t : Nat) (r : Option Nat) (h : Nat → Option PE) : Option vp_A := match r with
  | none => none
  | some a => match h a with
    | some (.inl x) => if x.1 = t then some x.2 else none
    | _ => none
def aI (t : Nat) (r : Option Nat) (i : Int32) : St Int32 := rd fun h => match m_ar t r h with
  | some (n, .inl f) => if i < 0 ∨ n ≤ i.toNatClampNeg then none else some (f i.toNatClampNeg)
  | _ => none
def aL (r : Option Nat) (i : Int32) : St Int64 := rd fun h => match m_ar 4 r h with
  | some (n, .inr (.inl f)) => if i < 0 ∨ n ≤ i.toNatClampNeg then none else some (f i.toNatClampNeg)
  | _ => none
def aF (r : Option Nat) (i : Int32) : St UInt32 := rd fun h => match m_ar 5 r h with
  | some (n, .inr (.inr (.inl f))) => if i < 0 ∨ n ≤ i.toNatClampNeg then none else some (f i.toNatClampNeg)
  | _ => none
def aD (r : Option Nat) (i : Int32) : St UInt64 := rd fun h => match m_ar 6 r h with
  | some (n, .inr (.inr (.inr (.inl f)))) => if i < 0 ∨ n ≤ i.toNatClampNeg then none else some (f i.toNatClampNeg)
  | _ => none
def aR (t : Nat) (r : Option Nat) (i : Int32) : St (Option Nat) := rd fun h => match m_ar t r h with
  | some (n, .inr (.inr (.inr (.inr f)))) => if i < 0 ∨ n ≤ i.toNatClampNeg then none else some (f i.toNatClampNeg)
  | _ => none
/-- an array's length -/
def aN (t : Nat) (r : Option Nat) : St Int32 := rd fun h => match m_ar t r h with
  | some x => some (Int32.ofNat x.1)
  | none => none
/-- a place of an array gets a value -/
def m_as (t : Nat) (r : Option Nat) (i : Int32) (g : Nat → vp_A → Option vp_A) : St Unit := match r with
  | none => fl
  | some a => wr a fun e => match e with
    | .inl x => if x.1 = t ∧ ¬ (i < 0 ∨ x.2.1 ≤ i.toNatClampNeg) then (match g i.toNatClampNeg x.2 with
      | none => none
      | some y => some (.inl (t, y))) else none
    | _ => none
def sI (t : Nat) (r : Option Nat) (i : Int32) (v : Int32) : St Unit := m_as t r i fun k x => match x with
  | (n, .inl f) => some (n, .inl (upd f k v))
  | _ => none
def sL (r : Option Nat) (i : Int32) (v : Int64) : St Unit := m_as 4 r i fun k x => match x with
  | (n, .inr (.inl f)) => some (n, .inr (.inl (vp_updL f k v)))
  | _ => none
def sF (r : Option Nat) (i : Int32) (v : UInt32) : St Unit := m_as 5 r i fun k x => match x with
  | (n, .inr (.inr (.inl f))) => some (n, .inr (.inr (.inl (vf_upd f k v))))
  | _ => none
def sD (r : Option Nat) (i : Int32) (v : UInt64) : St Unit := m_as 6 r i fun k x => match x with
  | (n, .inr (.inr (.inr (.inl f)))) => some (n, .inr (.inr (.inr (.inl (vf_upd f k v)))))
  | _ => none
def sR (t : Nat) (r : Option Nat) (i : Int32) (v : Option Nat) : St Unit := m_as t r i fun k x => match x with
  | (n, .inr (.inr (.inr (.inr f)))) => some (n, .inr (.inr (.inr (.inr (va_up f k v)))))
  | _ => none
/-- the object at r is there, and of one of the classes cs: where it is, and which class -/
def dr (cs : List Nat) (r : Option Nat) : St (Nat × Nat) := rd fun h => match r with
  | none => none
  | some a => match h a with
    | some (.inr o) => if o.1 ∈ cs then some (a, o.1) else none
    | _ => none
/-- an answer only where a condition holds (a divisor, a NaN) -/
def ck (c : Prop) [Decidable c] : St Unit := if c then rt () else fl
theorem ck_some {c : Prop} [Decidable c] {s t : WS} {u : Unit} (h : (ck c).1 s = some (u, t)) : c ∧ t = s := by
  unfold ck at h
  split at h
  · next hc => cases h; exact ⟨hc, rfl⟩
  · cases h
theorem ck_of {c : Prop} [Decidable c] {s : WS} (h : c) : (ck c).1 s = some ((), s) := by
  unfold ck
  rw [if_pos h]
  rfl
