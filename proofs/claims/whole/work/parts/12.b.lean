/-! ===== the same for a member of the JDK's ===== -/
theorem m_enterF {l : Launch} {D : va_G} {cy : Nat → ClassId} {z : Nat} {y : MethodName} {cc : ByteArray} {nL : Nat} {ret : Option FieldType} {fr lo : Nat} {α : Type} {F : St α} {val : α → Option Value} {av : List Value} (lvs : List (Nat × Value)) (hy : plainFor y = true) (hav : lv_args 0 av = lvs) (hlen : (lg_sl av).length ≤ nL)
    (body : ∀ (p : Program) (e : Env) (R : Room) (s : State) (m : MethodId) (args : Array Value) (below : List Frame) (meth : Method) (c : Code) (ws0 wsf : WS) (rr : α), Cx D cy z y.cls cc nL ret fr lo y.name p R s m meth c → AC ws0 wsf R.cells R.slots → At_ l D cy z p e R s m args below meth c ws0 wsf val rr nL 0 lvs [] F) : MT l D cy z y cc nL ret fr lo F val av := by
  intro ws r wsf mc ms hF hA
  refine va_MetF (cc := cc) (maxL := nL) (ret := ret) hy rfl ?_
  intro p e s m args below meth c s₁ B hml hv
  obtain ⟨rfl, hP, hK, hz⟩ := hv
  have hl := lv_entry av (n := nL) hlen
  rw [hav] at hl
  rw [lg_entry_eq]
  exact body p e _ s m _ below meth c ws wsf r ⟨B.exec, B.bytes, B.returns, hml, findClass_of_methodNamed B.named, hK, hz, B.notSynchronized, (name_of_methodNamed B.named B.method).1, Nat.le_refl _, Nat.le_refl _⟩ hA ws s.heap [] 0 0 _ hl ⟨hP, va_S.rf, ⟨rfl, rfl⟩⟩ hF
theorem m_ci (x : Int32) : (Value.int x).category = 1 := rfl
theorem m_cl (x : Int64) : (Value.long x).category = 2 := rfl
theorem m_cf (x : UInt32) : (Value.float x).category = 1 := rfl
theorem m_cd (x : UInt64) : (Value.double x).category = 2 := rfl
theorem m_cr (x : Nat) : (Value.ref x).category = 1 := rfl
