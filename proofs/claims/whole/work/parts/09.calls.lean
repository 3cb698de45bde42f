/-! ===== calls ===== -/
section CALLS
variable {p : Program} {l : Launch} {e : Env} {R : Room} {s : State} {m : MethodId} {args : Array Value} {below : List Frame} {meth : Method} {c : Code} {H : Heap} {locs : List Loc} {cells slots : Nat} {Q : State → Prop}
variable {cc : ByteArray} {pc : Nat} {ls : Array Slot} {rest : List Value} {D : va_G} {cy : Nat → ClassId} {z : Nat} {ws0 ws wsf : WS} {β : Type} {rr : β} {own : String}
theorem m_call {st0 : List Value} {v : Option Value} {ws1 : WS} {a : Array Value} {mc ms : Nat} (hr : va_Run p l e R s m args below meth c H locs cells slots mc ms (F0 m pc ls st0) rest (Qm D cy z v ws1 a) (fun q => z ≤ q)) (hH : HI D cy z s ws0 ws H locs cells slots) (hA : AC ws ws1 mc ms)
    (kk : ∀ (H1 : Heap) (locs1 : List Loc), HI D cy z s ws0 ws1 H1 locs1 (cells + mc) (slots + ms) → W p l e R s m args below meth c H1 locs1 (cells + mc) (slots + ms) Q (F0 m (pc + 3) ls (v.toList ++ rest))) : W p l e R s m args below meth c H locs cells slots Q (F0 m pc ls st0) := by
  intro T hT X
  obtain ⟨v', st₀, t, T', L, h0, X', hL, e1, e2, ⟨hv, hp, hz, hk⟩, st⟩ := hr T hT X
  cases hv
  rw [h0] at hz hk
  obtain ⟨t2, a1, b1⟩ := kk T'.heap (locs ++ L) ⟨by rw [e1]; exact hp, ⟨Nat.le_trans hH.2.1.1 (by rw [e1]; exact hz), fun q h1 h2 => by rw [e1, hk q (Nat.lt_of_lt_of_le h1 hH.2.1.1) h2]; exact hH.2.1.2.1 q h1 h2, fun q hq => by
      rcases List.mem_append.mp hq with h | h
      · exact hH.2.1.2.2 q h
      · exact hL q h⟩, by
      have g1 := hH.2.2.1
      have g2 := hH.2.2.2
      have g3 := hA.1
      have g4 := hA.2
      constructor <;> omega⟩ T' rfl X'
  exact ⟨t2, st t2 a1, b1⟩
theorem m_ac {w1 w2 : WS} (h : w1.2.1 ≤ w2.2.1 ∧ w1.2.2 ≤ w2.2.2) : AC w1 w2 (w2.2.1 - w1.2.1) (w2.2.2 - w1.2.2) := by
  constructor <;> omega
/-- what a method's name must be, and how many arguments it takes -/
def YN (y : MethodName) (n : Nat) : Prop := y.cls ≠ "java/lang/invoke/MethodHandle" ∧ y.cls ≠ "java/lang/invoke/VarHandle" ∧ (parseMethodDescriptor y.desc).map (fun d => d.parameters.length) = some n
theorem m_code {D : va_G} {cy : Nat → ClassId} {s : State} (hk : KK D cy s) {y : MethodName} {b : ByteArray} {n : Nat} {rt : Option FieldType} (h : WD (.code y b n rt)) : ∀ w ∈ [Cond.code y b n rt], ∀ (a' : Array Value) (U : State), s.WarmedH U.vm → w.before a' U = true := fun w hw a' U hW => by
  rw [List.mem_singleton.mp hw]
  exact okw_moved h.2 hW (hk.wd h #[])
theorem m_pre (hk : KK D cy s) (hH : HI D cy z s ws0 ws H locs cells slots) (hz : z ≤ s.heap.size) {As : List Value} : ∀ U : State, U.heap = H → s.WarmedH U.vm → Pm D cy z ws As As.toArray U := fun U hU hW => ⟨rfl, by rw [hU]; exact hH.1, hk.moved hW, by rw [hU]; exact Nat.le_trans hz hH.2.1.1⟩
theorem m_par {y : MethodName} {n : Nat} (h : YN y n) : ∀ sig, parseMethodDescriptor y.desc = some sig → n = sig.parameters.length := fun sig h1 => by
  have h2 := h.2.2
  rw [h1] at h2
  exact (Option.some.inj h2).symm
theorem m_recv (hk : KK D cy s) (hH : HI D cy z s ws0 ws H locs cells slots) {b ci : Nat} {fs : List Value} {q : vw_C} (hb : ws.1 b = some (.inr (ci, fs))) (hq : vwCl[ci]? = some q) : ∃ cellB : Cell, H[b]? = some cellB ∧ cellB.vm.isStatics = false ∧ s.vm.findClass q.1 = some cellB.cls := va_recv hk.1 (hH.P hb) (ci := ci) (q0 := 0) hq rfl

theorem m_cSI (hx : p.tables.exec = Jvm.exec) (hb : c.code = cc) {nL : Nat} (hml : c.maxLocals = nL) (hown : s.vm.findClass own = some m.cls) (hk : KK D cy s) (hH : HI D cy z s ws0 ws H locs cells slots) (hE : AL ws0 wsf R.cells R.slots) (hz : z ≤ s.heap.size) {idx : Nat} {y : MethodName} {bytes : ByteArray} {maxL fr lo : Nat} {ret : Option FieldType} {F : St (Int32)} {As : List Value} (hM : MT l D cy z y bytes maxL ret fr lo F vI As) {K : Int32 → St β} (hF : (bd F K).1 ws = some (rr, wsf)) (w1 : WD (.methodLink own idx y)) (w2 : WD (.static y)) (w3 : WD (.initialized y.cls)) (w4 : WD (.code y bytes maxL ret)) (hy : YN y As.length) (hR : fr + 1 ≤ R.frames ∧ 8 + (maxL + 11) + lo ≤ R.locals) (hsz : ls.size = nL) (hW : (rest.map fun v => v.category).sum ≤ 8) {st0 : List Value} (hst : st0 = As.reverse ++ rest) (hdg : decode cc pc = .ok (.invokestatic idx, 3)) (kk : ∀ (r : Int32) (ws1 : WS) (H1 : Heap) (locs1 : List Loc) (cells1 slots1 : Nat), HI D cy z s ws0 ws1 H1 locs1 cells1 slots1 → (K r).1 ws1 = some (rr, wsf) → W p l e R s m args below meth c H1 locs1 cells1 slots1 Q (F0 m (pc + 3) ls (.int r :: rest))) : W p l e R s m args below meth c H locs cells slots Q (F0 m pc ls st0) := by
  obtain ⟨r1, ws1, h1, h2⟩ := bd_some hF
  have hmo := F.2 _ _ _ h1
  have hmk := (K r1).2 _ _ _ h2
  have hA := m_ac hmo
  obtain ⟨g1, g2⟩ := m_room hH hE hA.1 hA.2 hmk
  refine m_call (va_runS (Ts := []) ⟨hx, hb, hml, hown, fun w hw => absurd hw List.not_mem_nil⟩ (hM ws r1 ws1 _ _ h1 hA) ⟨⟨rfl, rfl, hR.1, hR.2, m_code hk w4, List.mem_singleton.mpr rfl, hk.wd w4 args, hk.wd w3 args, ⟨hy.1, hy.2.1⟩, m_par hy, hk.wd w1 args⟩, hk.wd w2 args⟩ ⟨Pm.blind, m_pre hk hH hz⟩ rfl rfl hsz hst (lv_room hW) hdg ⟨g1, g2⟩) hH hA fun H1 locs1 hH1 => ?_
  exact kk r1 ws1 H1 locs1 _ _ hH1 h2

theorem m_cSNI (hx : p.tables.exec = Jvm.exec) (hb : c.code = cc) {nL : Nat} (hml : c.maxLocals = nL) (hown : s.vm.findClass own = some m.cls) (hk : KK D cy s) (hH : HI D cy z s ws0 ws H locs cells slots) (hE : AL ws0 wsf R.cells R.slots) (hz : z ≤ s.heap.size) {idx : Nat} {y : MethodName} {bytes : ByteArray} {maxL fr lo : Nat} {ret : Option FieldType} {F : St (Int32)} {As : List Value} (hM : MT l D cy z y bytes maxL ret fr lo F vI As) {K : Int32 → St β} (hF : (bd F K).1 ws = some (rr, wsf)) (w1 : ∃ host, WD (.methodLinkNest own idx y host)) (w2 : WD (.static y)) (w3 : WD (.initialized y.cls)) (w4 : WD (.code y bytes maxL ret)) (hy : YN y As.length) (hR : fr + 1 ≤ R.frames ∧ 8 + (maxL + 11) + lo ≤ R.locals) (hsz : ls.size = nL) (hW : (rest.map fun v => v.category).sum ≤ 8) {st0 : List Value} (hst : st0 = As.reverse ++ rest) (hdg : decode cc pc = .ok (.invokestatic idx, 3)) (kk : ∀ (r : Int32) (ws1 : WS) (H1 : Heap) (locs1 : List Loc) (cells1 slots1 : Nat), HI D cy z s ws0 ws1 H1 locs1 cells1 slots1 → (K r).1 ws1 = some (rr, wsf) → W p l e R s m args below meth c H1 locs1 cells1 slots1 Q (F0 m (pc + 3) ls (.int r :: rest))) : W p l e R s m args below meth c H locs cells slots Q (F0 m pc ls st0) := by
  obtain ⟨r1, ws1, h1, h2⟩ := bd_some hF
  have hmo := F.2 _ _ _ h1
  have hmk := (K r1).2 _ _ _ h2
  have hA := m_ac hmo
  obtain ⟨g1, g2⟩ := m_room hH hE hA.1 hA.2 hmk
  obtain ⟨host, w1⟩ := w1
  refine m_call (va_runSN (host := host) (Ts := []) ⟨hx, hb, hml, hown, fun w hw => absurd hw List.not_mem_nil⟩ (hM ws r1 ws1 _ _ h1 hA) ⟨⟨⟨rfl, rfl, hR.1, hR.2, m_code hk w4, List.mem_singleton.mpr rfl⟩, hk.wd w4 args, hk.wd w3 args, ⟨hy.1, hy.2.1⟩, m_par hy, hk.wd w1 args⟩, hk.wd w2 args, trivial⟩ ⟨Pm.blind, m_pre hk hH hz⟩ rfl rfl hsz hst (lv_room hW) hdg ⟨g1, g2⟩) hH hA fun H1 locs1 hH1 => ?_
  exact kk r1 ws1 H1 locs1 _ _ hH1 h2

theorem m_cSL (hx : p.tables.exec = Jvm.exec) (hb : c.code = cc) {nL : Nat} (hml : c.maxLocals = nL) (hown : s.vm.findClass own = some m.cls) (hk : KK D cy s) (hH : HI D cy z s ws0 ws H locs cells slots) (hE : AL ws0 wsf R.cells R.slots) (hz : z ≤ s.heap.size) {idx : Nat} {y : MethodName} {bytes : ByteArray} {maxL fr lo : Nat} {ret : Option FieldType} {F : St (Int64)} {As : List Value} (hM : MT l D cy z y bytes maxL ret fr lo F vL As) {K : Int64 → St β} (hF : (bd F K).1 ws = some (rr, wsf)) (w1 : WD (.methodLink own idx y)) (w2 : WD (.static y)) (w3 : WD (.initialized y.cls)) (w4 : WD (.code y bytes maxL ret)) (hy : YN y As.length) (hR : fr + 1 ≤ R.frames ∧ 8 + (maxL + 11) + lo ≤ R.locals) (hsz : ls.size = nL) (hW : (rest.map fun v => v.category).sum ≤ 8) {st0 : List Value} (hst : st0 = As.reverse ++ rest) (hdg : decode cc pc = .ok (.invokestatic idx, 3)) (kk : ∀ (r : Int64) (ws1 : WS) (H1 : Heap) (locs1 : List Loc) (cells1 slots1 : Nat), HI D cy z s ws0 ws1 H1 locs1 cells1 slots1 → (K r).1 ws1 = some (rr, wsf) → W p l e R s m args below meth c H1 locs1 cells1 slots1 Q (F0 m (pc + 3) ls (.long r :: rest))) : W p l e R s m args below meth c H locs cells slots Q (F0 m pc ls st0) := by
  obtain ⟨r1, ws1, h1, h2⟩ := bd_some hF
  have hmo := F.2 _ _ _ h1
  have hmk := (K r1).2 _ _ _ h2
  have hA := m_ac hmo
  obtain ⟨g1, g2⟩ := m_room hH hE hA.1 hA.2 hmk
  refine m_call (va_runS (Ts := []) ⟨hx, hb, hml, hown, fun w hw => absurd hw List.not_mem_nil⟩ (hM ws r1 ws1 _ _ h1 hA) ⟨⟨rfl, rfl, hR.1, hR.2, m_code hk w4, List.mem_singleton.mpr rfl, hk.wd w4 args, hk.wd w3 args, ⟨hy.1, hy.2.1⟩, m_par hy, hk.wd w1 args⟩, hk.wd w2 args⟩ ⟨Pm.blind, m_pre hk hH hz⟩ rfl rfl hsz hst (lv_room hW) hdg ⟨g1, g2⟩) hH hA fun H1 locs1 hH1 => ?_
  exact kk r1 ws1 H1 locs1 _ _ hH1 h2

theorem m_cSNL (hx : p.tables.exec = Jvm.exec) (hb : c.code = cc) {nL : Nat} (hml : c.maxLocals = nL) (hown : s.vm.findClass own = some m.cls) (hk : KK D cy s) (hH : HI D cy z s ws0 ws H locs cells slots) (hE : AL ws0 wsf R.cells R.slots) (hz : z ≤ s.heap.size) {idx : Nat} {y : MethodName} {bytes : ByteArray} {maxL fr lo : Nat} {ret : Option FieldType} {F : St (Int64)} {As : List Value} (hM : MT l D cy z y bytes maxL ret fr lo F vL As) {K : Int64 → St β} (hF : (bd F K).1 ws = some (rr, wsf)) (w1 : ∃ host, WD (.methodLinkNest own idx y host)) (w2 : WD (.static y)) (w3 : WD (.initialized y.cls)) (w4 : WD (.code y bytes maxL ret)) (hy : YN y As.length) (hR : fr + 1 ≤ R.frames ∧ 8 + (maxL + 11) + lo ≤ R.locals) (hsz : ls.size = nL) (hW : (rest.map fun v => v.category).sum ≤ 8) {st0 : List Value} (hst : st0 = As.reverse ++ rest) (hdg : decode cc pc = .ok (.invokestatic idx, 3)) (kk : ∀ (r : Int64) (ws1 : WS) (H1 : Heap) (locs1 : List Loc) (cells1 slots1 : Nat), HI D cy z s ws0 ws1 H1 locs1 cells1 slots1 → (K r).1 ws1 = some (rr, wsf) → W p l e R s m args below meth c H1 locs1 cells1 slots1 Q (F0 m (pc + 3) ls (.long r :: rest))) : W p l e R s m args below meth c H locs cells slots Q (F0 m pc ls st0) := by
  obtain ⟨r1, ws1, h1, h2⟩ := bd_some hF
  have hmo := F.2 _ _ _ h1
  have hmk := (K r1).2 _ _ _ h2
  have hA := m_ac hmo
  obtain ⟨g1, g2⟩ := m_room hH hE hA.1 hA.2 hmk
  obtain ⟨host, w1⟩ := w1
  refine m_call (va_runSN (host := host) (Ts := []) ⟨hx, hb, hml, hown, fun w hw => absurd hw List.not_mem_nil⟩ (hM ws r1 ws1 _ _ h1 hA) ⟨⟨⟨rfl, rfl, hR.1, hR.2, m_code hk w4, List.mem_singleton.mpr rfl⟩, hk.wd w4 args, hk.wd w3 args, ⟨hy.1, hy.2.1⟩, m_par hy, hk.wd w1 args⟩, hk.wd w2 args, trivial⟩ ⟨Pm.blind, m_pre hk hH hz⟩ rfl rfl hsz hst (lv_room hW) hdg ⟨g1, g2⟩) hH hA fun H1 locs1 hH1 => ?_
  exact kk r1 ws1 H1 locs1 _ _ hH1 h2

theorem m_cSR (hx : p.tables.exec = Jvm.exec) (hb : c.code = cc) {nL : Nat} (hml : c.maxLocals = nL) (hown : s.vm.findClass own = some m.cls) (hk : KK D cy s) (hH : HI D cy z s ws0 ws H locs cells slots) (hE : AL ws0 wsf R.cells R.slots) (hz : z ≤ s.heap.size) {idx : Nat} {y : MethodName} {bytes : ByteArray} {maxL fr lo : Nat} {ret : Option FieldType} {F : St (Option Nat)} {As : List Value} (hM : MT l D cy z y bytes maxL ret fr lo F vR As) {K : Option Nat → St β} (hF : (bd F K).1 ws = some (rr, wsf)) (w1 : WD (.methodLink own idx y)) (w2 : WD (.static y)) (w3 : WD (.initialized y.cls)) (w4 : WD (.code y bytes maxL ret)) (hy : YN y As.length) (hR : fr + 1 ≤ R.frames ∧ 8 + (maxL + 11) + lo ≤ R.locals) (hsz : ls.size = nL) (hW : (rest.map fun v => v.category).sum ≤ 8) {st0 : List Value} (hst : st0 = As.reverse ++ rest) (hdg : decode cc pc = .ok (.invokestatic idx, 3)) (kk : ∀ (r : Option Nat) (ws1 : WS) (H1 : Heap) (locs1 : List Loc) (cells1 slots1 : Nat), HI D cy z s ws0 ws1 H1 locs1 cells1 slots1 → (K r).1 ws1 = some (rr, wsf) → W p l e R s m args below meth c H1 locs1 cells1 slots1 Q (F0 m (pc + 3) ls (va_rf r :: rest))) : W p l e R s m args below meth c H locs cells slots Q (F0 m pc ls st0) := by
  obtain ⟨r1, ws1, h1, h2⟩ := bd_some hF
  have hmo := F.2 _ _ _ h1
  have hmk := (K r1).2 _ _ _ h2
  have hA := m_ac hmo
  obtain ⟨g1, g2⟩ := m_room hH hE hA.1 hA.2 hmk
  refine m_call (va_runS (Ts := []) ⟨hx, hb, hml, hown, fun w hw => absurd hw List.not_mem_nil⟩ (hM ws r1 ws1 _ _ h1 hA) ⟨⟨rfl, rfl, hR.1, hR.2, m_code hk w4, List.mem_singleton.mpr rfl, hk.wd w4 args, hk.wd w3 args, ⟨hy.1, hy.2.1⟩, m_par hy, hk.wd w1 args⟩, hk.wd w2 args⟩ ⟨Pm.blind, m_pre hk hH hz⟩ rfl rfl hsz hst (lv_room hW) hdg ⟨g1, g2⟩) hH hA fun H1 locs1 hH1 => ?_
  exact kk r1 ws1 H1 locs1 _ _ hH1 h2

theorem m_cSNR (hx : p.tables.exec = Jvm.exec) (hb : c.code = cc) {nL : Nat} (hml : c.maxLocals = nL) (hown : s.vm.findClass own = some m.cls) (hk : KK D cy s) (hH : HI D cy z s ws0 ws H locs cells slots) (hE : AL ws0 wsf R.cells R.slots) (hz : z ≤ s.heap.size) {idx : Nat} {y : MethodName} {bytes : ByteArray} {maxL fr lo : Nat} {ret : Option FieldType} {F : St (Option Nat)} {As : List Value} (hM : MT l D cy z y bytes maxL ret fr lo F vR As) {K : Option Nat → St β} (hF : (bd F K).1 ws = some (rr, wsf)) (w1 : ∃ host, WD (.methodLinkNest own idx y host)) (w2 : WD (.static y)) (w3 : WD (.initialized y.cls)) (w4 : WD (.code y bytes maxL ret)) (hy : YN y As.length) (hR : fr + 1 ≤ R.frames ∧ 8 + (maxL + 11) + lo ≤ R.locals) (hsz : ls.size = nL) (hW : (rest.map fun v => v.category).sum ≤ 8) {st0 : List Value} (hst : st0 = As.reverse ++ rest) (hdg : decode cc pc = .ok (.invokestatic idx, 3)) (kk : ∀ (r : Option Nat) (ws1 : WS) (H1 : Heap) (locs1 : List Loc) (cells1 slots1 : Nat), HI D cy z s ws0 ws1 H1 locs1 cells1 slots1 → (K r).1 ws1 = some (rr, wsf) → W p l e R s m args below meth c H1 locs1 cells1 slots1 Q (F0 m (pc + 3) ls (va_rf r :: rest))) : W p l e R s m args below meth c H locs cells slots Q (F0 m pc ls st0) := by
  obtain ⟨r1, ws1, h1, h2⟩ := bd_some hF
  have hmo := F.2 _ _ _ h1
  have hmk := (K r1).2 _ _ _ h2
  have hA := m_ac hmo
  obtain ⟨g1, g2⟩ := m_room hH hE hA.1 hA.2 hmk
  obtain ⟨host, w1⟩ := w1
  refine m_call (va_runSN (host := host) (Ts := []) ⟨hx, hb, hml, hown, fun w hw => absurd hw List.not_mem_nil⟩ (hM ws r1 ws1 _ _ h1 hA) ⟨⟨⟨rfl, rfl, hR.1, hR.2, m_code hk w4, List.mem_singleton.mpr rfl⟩, hk.wd w4 args, hk.wd w3 args, ⟨hy.1, hy.2.1⟩, m_par hy, hk.wd w1 args⟩, hk.wd w2 args, trivial⟩ ⟨Pm.blind, m_pre hk hH hz⟩ rfl rfl hsz hst (lv_room hW) hdg ⟨g1, g2⟩) hH hA fun H1 locs1 hH1 => ?_
  exact kk r1 ws1 H1 locs1 _ _ hH1 h2

theorem m_cSU (hx : p.tables.exec = Jvm.exec) (hb : c.code = cc) {nL : Nat} (hml : c.maxLocals = nL) (hown : s.vm.findClass own = some m.cls) (hk : KK D cy s) (hH : HI D cy z s ws0 ws H locs cells slots) (hE : AL ws0 wsf R.cells R.slots) (hz : z ≤ s.heap.size) {idx : Nat} {y : MethodName} {bytes : ByteArray} {maxL fr lo : Nat} {ret : Option FieldType} {F : St (Unit)} {As : List Value} (hM : MT l D cy z y bytes maxL ret fr lo F vU As) {K : Unit → St β} (hF : (bd F K).1 ws = some (rr, wsf)) (w1 : WD (.methodLink own idx y)) (w2 : WD (.static y)) (w3 : WD (.initialized y.cls)) (w4 : WD (.code y bytes maxL ret)) (hy : YN y As.length) (hR : fr + 1 ≤ R.frames ∧ 8 + (maxL + 11) + lo ≤ R.locals) (hsz : ls.size = nL) (hW : (rest.map fun v => v.category).sum ≤ 8) {st0 : List Value} (hst : st0 = As.reverse ++ rest) (hdg : decode cc pc = .ok (.invokestatic idx, 3)) (kk : ∀ (r : Unit) (ws1 : WS) (H1 : Heap) (locs1 : List Loc) (cells1 slots1 : Nat), HI D cy z s ws0 ws1 H1 locs1 cells1 slots1 → (K r).1 ws1 = some (rr, wsf) → W p l e R s m args below meth c H1 locs1 cells1 slots1 Q (F0 m (pc + 3) ls (rest))) : W p l e R s m args below meth c H locs cells slots Q (F0 m pc ls st0) := by
  obtain ⟨r1, ws1, h1, h2⟩ := bd_some hF
  have hmo := F.2 _ _ _ h1
  have hmk := (K r1).2 _ _ _ h2
  have hA := m_ac hmo
  obtain ⟨g1, g2⟩ := m_room hH hE hA.1 hA.2 hmk
  refine m_call (va_runS (Ts := []) ⟨hx, hb, hml, hown, fun w hw => absurd hw List.not_mem_nil⟩ (hM ws r1 ws1 _ _ h1 hA) ⟨⟨rfl, rfl, hR.1, hR.2, m_code hk w4, List.mem_singleton.mpr rfl, hk.wd w4 args, hk.wd w3 args, ⟨hy.1, hy.2.1⟩, m_par hy, hk.wd w1 args⟩, hk.wd w2 args⟩ ⟨Pm.blind, m_pre hk hH hz⟩ rfl rfl hsz hst (lv_room hW) hdg ⟨g1, g2⟩) hH hA fun H1 locs1 hH1 => ?_
  exact kk r1 ws1 H1 locs1 _ _ hH1 h2

theorem m_cSNU (hx : p.tables.exec = Jvm.exec) (hb : c.code = cc) {nL : Nat} (hml : c.maxLocals = nL) (hown : s.vm.findClass own = some m.cls) (hk : KK D cy s) (hH : HI D cy z s ws0 ws H locs cells slots) (hE : AL ws0 wsf R.cells R.slots) (hz : z ≤ s.heap.size) {idx : Nat} {y : MethodName} {bytes : ByteArray} {maxL fr lo : Nat} {ret : Option FieldType} {F : St (Unit)} {As : List Value} (hM : MT l D cy z y bytes maxL ret fr lo F vU As) {K : Unit → St β} (hF : (bd F K).1 ws = some (rr, wsf)) (w1 : ∃ host, WD (.methodLinkNest own idx y host)) (w2 : WD (.static y)) (w3 : WD (.initialized y.cls)) (w4 : WD (.code y bytes maxL ret)) (hy : YN y As.length) (hR : fr + 1 ≤ R.frames ∧ 8 + (maxL + 11) + lo ≤ R.locals) (hsz : ls.size = nL) (hW : (rest.map fun v => v.category).sum ≤ 8) {st0 : List Value} (hst : st0 = As.reverse ++ rest) (hdg : decode cc pc = .ok (.invokestatic idx, 3)) (kk : ∀ (r : Unit) (ws1 : WS) (H1 : Heap) (locs1 : List Loc) (cells1 slots1 : Nat), HI D cy z s ws0 ws1 H1 locs1 cells1 slots1 → (K r).1 ws1 = some (rr, wsf) → W p l e R s m args below meth c H1 locs1 cells1 slots1 Q (F0 m (pc + 3) ls (rest))) : W p l e R s m args below meth c H locs cells slots Q (F0 m pc ls st0) := by
  obtain ⟨r1, ws1, h1, h2⟩ := bd_some hF
  have hmo := F.2 _ _ _ h1
  have hmk := (K r1).2 _ _ _ h2
  have hA := m_ac hmo
  obtain ⟨g1, g2⟩ := m_room hH hE hA.1 hA.2 hmk
  obtain ⟨host, w1⟩ := w1
  refine m_call (va_runSN (host := host) (Ts := []) ⟨hx, hb, hml, hown, fun w hw => absurd hw List.not_mem_nil⟩ (hM ws r1 ws1 _ _ h1 hA) ⟨⟨⟨rfl, rfl, hR.1, hR.2, m_code hk w4, List.mem_singleton.mpr rfl⟩, hk.wd w4 args, hk.wd w3 args, ⟨hy.1, hy.2.1⟩, m_par hy, hk.wd w1 args⟩, hk.wd w2 args, trivial⟩ ⟨Pm.blind, m_pre hk hH hz⟩ rfl rfl hsz hst (lv_room hW) hdg ⟨g1, g2⟩) hH hA fun H1 locs1 hH1 => ?_
  exact kk r1 ws1 H1 locs1 _ _ hH1 h2

theorem m_cI (hx : p.tables.exec = Jvm.exec) (hb : c.code = cc) {nL : Nat} (hml : c.maxLocals = nL) (hown : s.vm.findClass own = some m.cls) (hk : KK D cy s) (hH : HI D cy z s ws0 ws H locs cells slots) (hE : AL ws0 wsf R.cells R.slots) (hz : z ≤ s.heap.size) {idx : Nat} {y : MethodName} {bytes : ByteArray} {maxL fr lo : Nat} {F : St Unit} {b : Nat} {As : List Value} (hM : MT l D cy z y bytes maxL none fr lo F vU (.ref b :: As)) {K : Unit → St β} (hF : (bd F K).1 ws = some (rr, wsf)) (w1 : WD (.methodLink own idx y)) (w2 : WD (.instanceMethod y)) (w3 : WD (.initialized y.cls)) (w4 : WD (.code y bytes maxL none)) (hy : YN y As.length) (hn : y.name = "<init>") (hR : fr + 1 ≤ R.frames ∧ 8 + (maxL + 11) + lo ≤ R.locals) (hsz : ls.size = nL) (hW : (rest.map fun v => v.category).sum ≤ 8) {st0 : List Value} (hst : st0 = As.reverse ++ .ref b :: rest) (hdg : decode cc pc = .ok (.invokespecial idx, 3)) (kk : ∀ (r : Unit) (ws1 : WS) (H1 : Heap) (locs1 : List Loc) (cells1 slots1 : Nat), HI D cy z s ws0 ws1 H1 locs1 cells1 slots1 → (K r).1 ws1 = some (rr, wsf) → W p l e R s m args below meth c H1 locs1 cells1 slots1 Q (F0 m (pc + 3) ls (rest))) : W p l e R s m args below meth c H locs cells slots Q (F0 m pc ls st0) := by
  obtain ⟨r1, ws1, h1, h2⟩ := bd_some hF
  have hmo := F.2 _ _ _ h1
  have hmk := (K r1).2 _ _ _ h2
  have hA := m_ac hmo
  obtain ⟨g1, g2⟩ := m_room hH hE hA.1 hA.2 hmk
  refine m_call (va_runI (b := b) (As := As) (Ts := []) ⟨hx, hb, hml, hown, fun w hw => absurd hw List.not_mem_nil⟩ (hM ws r1 ws1 _ _ h1 hA) ⟨⟨rfl, rfl, hR.1, hR.2, m_code hk w4, List.mem_singleton.mpr rfl, hk.wd w4 args, hk.wd w3 args, ⟨hy.1, hy.2.1⟩, m_par hy, hk.wd w1 args⟩, hn, hk.wd w2 args⟩ ⟨Pm.blind, m_pre hk hH hz⟩ rfl rfl hsz hst (lv_room hW) hdg ⟨g1, g2⟩) hH hA fun H1 locs1 hH1 => ?_
  exact kk r1 ws1 H1 locs1 _ _ hH1 h2

theorem m_cIN (hx : p.tables.exec = Jvm.exec) (hb : c.code = cc) {nL : Nat} (hml : c.maxLocals = nL) (hown : s.vm.findClass own = some m.cls) (hk : KK D cy s) (hH : HI D cy z s ws0 ws H locs cells slots) (hE : AL ws0 wsf R.cells R.slots) (hz : z ≤ s.heap.size) {idx : Nat} {y : MethodName} {bytes : ByteArray} {maxL fr lo : Nat} {F : St Unit} {b : Nat} {As : List Value} (hM : MT l D cy z y bytes maxL none fr lo F vU (.ref b :: As)) {K : Unit → St β} (hF : (bd F K).1 ws = some (rr, wsf)) (w1 : ∃ host, WD (.methodLinkNest own idx y host)) (w2 : WD (.instanceMethod y)) (w3 : WD (.initialized y.cls)) (w4 : WD (.code y bytes maxL none)) (hy : YN y As.length) (hn : y.name = "<init>") (hR : fr + 1 ≤ R.frames ∧ 8 + (maxL + 11) + lo ≤ R.locals) (hsz : ls.size = nL) (hW : (rest.map fun v => v.category).sum ≤ 8) {st0 : List Value} (hst : st0 = As.reverse ++ .ref b :: rest) (hdg : decode cc pc = .ok (.invokespecial idx, 3)) (kk : ∀ (r : Unit) (ws1 : WS) (H1 : Heap) (locs1 : List Loc) (cells1 slots1 : Nat), HI D cy z s ws0 ws1 H1 locs1 cells1 slots1 → (K r).1 ws1 = some (rr, wsf) → W p l e R s m args below meth c H1 locs1 cells1 slots1 Q (F0 m (pc + 3) ls (rest))) : W p l e R s m args below meth c H locs cells slots Q (F0 m pc ls st0) := by
  obtain ⟨r1, ws1, h1, h2⟩ := bd_some hF
  have hmo := F.2 _ _ _ h1
  have hmk := (K r1).2 _ _ _ h2
  have hA := m_ac hmo
  obtain ⟨g1, g2⟩ := m_room hH hE hA.1 hA.2 hmk
  obtain ⟨host, w1⟩ := w1
  refine m_call (va_runIN (host := host) (b := b) (As := As) (Ts := []) ⟨hx, hb, hml, hown, fun w hw => absurd hw List.not_mem_nil⟩ (hM ws r1 ws1 _ _ h1 hA) ⟨⟨⟨rfl, rfl, hR.1, hR.2, m_code hk w4, List.mem_singleton.mpr rfl⟩, hk.wd w4 args, hk.wd w3 args, ⟨hy.1, hy.2.1⟩, m_par hy, hk.wd w1 args⟩, hn, hk.wd w2 args⟩ ⟨Pm.blind, m_pre hk hH hz⟩ rfl rfl hsz hst (lv_room hW) hdg ⟨g1, g2⟩) hH hA fun H1 locs1 hH1 => ?_
  exact kk r1 ws1 H1 locs1 _ _ hH1 h2

theorem m_cVI (hx : p.tables.exec = Jvm.exec) (hb : c.code = cc) {nL : Nat} (hml : c.maxLocals = nL) (hown : s.vm.findClass own = some m.cls) (hk : KK D cy s) (hH : HI D cy z s ws0 ws H locs cells slots) (hE : AL ws0 wsf R.cells R.slots) (hz : z ≤ s.heap.size) {idx : Nat} {y : MethodName} {bytes : ByteArray} {maxL fr lo : Nat} {ret : Option FieldType} {F : Nat × Nat → St (Int32)} {ci : Nat} {C : String} {T : u_T} {N : Nat} (hq : vwCl[ci]? = some (C, T, N)) {b : Option Nat} {As : List Value} (hM : ∀ o, MT l D cy z y bytes maxL ret fr lo (F (o, ci)) vI (.ref o :: As)) {K : Int32 → St β} (hF : (bd (dr [ci] b) fun o => bd (F o) K).1 ws = some (rr, wsf)) (w1 : WD (.methodLink own idx y)) (w2 : WD (.instanceMethod y)) (w3 : WD (.initialized y.cls)) (w4 : WD (.code y bytes maxL ret)) (w5 : WD (.selects C y y)) (hy : YN y As.length) (hR : fr + 1 ≤ R.frames ∧ 8 + (maxL + 11) + lo ≤ R.locals) (hsz : ls.size = nL) (hW : (rest.map fun v => v.category).sum ≤ 8) {st0 : List Value} (hst : st0 = As.reverse ++ va_rf b :: rest) (hdg : decode cc pc = .ok (.invokevirtual idx, 3)) (kk : ∀ (r : Int32) (ws1 : WS) (H1 : Heap) (locs1 : List Loc) (cells1 slots1 : Nat), HI D cy z s ws0 ws1 H1 locs1 cells1 slots1 → (K r).1 ws1 = some (rr, wsf) → W p l e R s m args below meth c H1 locs1 cells1 slots1 Q (F0 m (pc + 3) ls (.int r :: rest))) : W p l e R s m args below meth c H locs cells slots Q (F0 m pc ls st0) := by
  obtain ⟨⟨o, oc⟩, t0, g0, hG⟩ := bd_some hF
  obtain ⟨fs, rfl, hoc, hob, rfl⟩ := dr_some g0
  have hoc := List.mem_singleton.mp hoc
  dsimp only at hoc hob hst hG
  subst hoc
  obtain ⟨r1, ws1, h1, h2⟩ := bd_some hG
  have hmo := (F (o, oc)).2 _ _ _ h1
  have hmk := (K r1).2 _ _ _ h2
  have hA := m_ac hmo
  obtain ⟨g1, g2⟩ := m_room hH hE hA.1 hA.2 hmk
  refine m_call (va_runV (C := C) (b := o) (As := As) (Ts := []) ⟨hx, hb, hml, hown, fun w hw => absurd hw List.not_mem_nil⟩ (hM o _ r1 ws1 _ _ h1 hA) ⟨⟨rfl, rfl, hR.1, hR.2, m_code hk w4, List.mem_singleton.mpr rfl, hk.wd w4 args, hk.wd w3 args, ⟨hy.1, hy.2.1⟩, m_par hy, hk.wd w1 args⟩, hk.wd w2 args, hk.wd w5 args⟩ ⟨Pm.blind, m_recv hk hH hob hq, m_pre hk hH hz⟩ rfl rfl hsz hst (lv_room hW) hdg ⟨g1, g2⟩) hH hA fun H1 locs1 hH1 => ?_
  exact kk r1 ws1 H1 locs1 _ _ hH1 h2

theorem m_cVL (hx : p.tables.exec = Jvm.exec) (hb : c.code = cc) {nL : Nat} (hml : c.maxLocals = nL) (hown : s.vm.findClass own = some m.cls) (hk : KK D cy s) (hH : HI D cy z s ws0 ws H locs cells slots) (hE : AL ws0 wsf R.cells R.slots) (hz : z ≤ s.heap.size) {idx : Nat} {y : MethodName} {bytes : ByteArray} {maxL fr lo : Nat} {ret : Option FieldType} {F : Nat × Nat → St (Int64)} {ci : Nat} {C : String} {T : u_T} {N : Nat} (hq : vwCl[ci]? = some (C, T, N)) {b : Option Nat} {As : List Value} (hM : ∀ o, MT l D cy z y bytes maxL ret fr lo (F (o, ci)) vL (.ref o :: As)) {K : Int64 → St β} (hF : (bd (dr [ci] b) fun o => bd (F o) K).1 ws = some (rr, wsf)) (w1 : WD (.methodLink own idx y)) (w2 : WD (.instanceMethod y)) (w3 : WD (.initialized y.cls)) (w4 : WD (.code y bytes maxL ret)) (w5 : WD (.selects C y y)) (hy : YN y As.length) (hR : fr + 1 ≤ R.frames ∧ 8 + (maxL + 11) + lo ≤ R.locals) (hsz : ls.size = nL) (hW : (rest.map fun v => v.category).sum ≤ 8) {st0 : List Value} (hst : st0 = As.reverse ++ va_rf b :: rest) (hdg : decode cc pc = .ok (.invokevirtual idx, 3)) (kk : ∀ (r : Int64) (ws1 : WS) (H1 : Heap) (locs1 : List Loc) (cells1 slots1 : Nat), HI D cy z s ws0 ws1 H1 locs1 cells1 slots1 → (K r).1 ws1 = some (rr, wsf) → W p l e R s m args below meth c H1 locs1 cells1 slots1 Q (F0 m (pc + 3) ls (.long r :: rest))) : W p l e R s m args below meth c H locs cells slots Q (F0 m pc ls st0) := by
  obtain ⟨⟨o, oc⟩, t0, g0, hG⟩ := bd_some hF
  obtain ⟨fs, rfl, hoc, hob, rfl⟩ := dr_some g0
  have hoc := List.mem_singleton.mp hoc
  dsimp only at hoc hob hst hG
  subst hoc
  obtain ⟨r1, ws1, h1, h2⟩ := bd_some hG
  have hmo := (F (o, oc)).2 _ _ _ h1
  have hmk := (K r1).2 _ _ _ h2
  have hA := m_ac hmo
  obtain ⟨g1, g2⟩ := m_room hH hE hA.1 hA.2 hmk
  refine m_call (va_runV (C := C) (b := o) (As := As) (Ts := []) ⟨hx, hb, hml, hown, fun w hw => absurd hw List.not_mem_nil⟩ (hM o _ r1 ws1 _ _ h1 hA) ⟨⟨rfl, rfl, hR.1, hR.2, m_code hk w4, List.mem_singleton.mpr rfl, hk.wd w4 args, hk.wd w3 args, ⟨hy.1, hy.2.1⟩, m_par hy, hk.wd w1 args⟩, hk.wd w2 args, hk.wd w5 args⟩ ⟨Pm.blind, m_recv hk hH hob hq, m_pre hk hH hz⟩ rfl rfl hsz hst (lv_room hW) hdg ⟨g1, g2⟩) hH hA fun H1 locs1 hH1 => ?_
  exact kk r1 ws1 H1 locs1 _ _ hH1 h2

theorem m_cVF (hx : p.tables.exec = Jvm.exec) (hb : c.code = cc) {nL : Nat} (hml : c.maxLocals = nL) (hown : s.vm.findClass own = some m.cls) (hk : KK D cy s) (hH : HI D cy z s ws0 ws H locs cells slots) (hE : AL ws0 wsf R.cells R.slots) (hz : z ≤ s.heap.size) {idx : Nat} {y : MethodName} {bytes : ByteArray} {maxL fr lo : Nat} {ret : Option FieldType} {F : Nat × Nat → St (UInt32)} {ci : Nat} {C : String} {T : u_T} {N : Nat} (hq : vwCl[ci]? = some (C, T, N)) {b : Option Nat} {As : List Value} (hM : ∀ o, MT l D cy z y bytes maxL ret fr lo (F (o, ci)) vF (.ref o :: As)) {K : UInt32 → St β} (hF : (bd (dr [ci] b) fun o => bd (F o) K).1 ws = some (rr, wsf)) (w1 : WD (.methodLink own idx y)) (w2 : WD (.instanceMethod y)) (w3 : WD (.initialized y.cls)) (w4 : WD (.code y bytes maxL ret)) (w5 : WD (.selects C y y)) (hy : YN y As.length) (hR : fr + 1 ≤ R.frames ∧ 8 + (maxL + 11) + lo ≤ R.locals) (hsz : ls.size = nL) (hW : (rest.map fun v => v.category).sum ≤ 8) {st0 : List Value} (hst : st0 = As.reverse ++ va_rf b :: rest) (hdg : decode cc pc = .ok (.invokevirtual idx, 3)) (kk : ∀ (r : UInt32) (ws1 : WS) (H1 : Heap) (locs1 : List Loc) (cells1 slots1 : Nat), HI D cy z s ws0 ws1 H1 locs1 cells1 slots1 → (K r).1 ws1 = some (rr, wsf) → W p l e R s m args below meth c H1 locs1 cells1 slots1 Q (F0 m (pc + 3) ls (.float r :: rest))) : W p l e R s m args below meth c H locs cells slots Q (F0 m pc ls st0) := by
  obtain ⟨⟨o, oc⟩, t0, g0, hG⟩ := bd_some hF
  obtain ⟨fs, rfl, hoc, hob, rfl⟩ := dr_some g0
  have hoc := List.mem_singleton.mp hoc
  dsimp only at hoc hob hst hG
  subst hoc
  obtain ⟨r1, ws1, h1, h2⟩ := bd_some hG
  have hmo := (F (o, oc)).2 _ _ _ h1
  have hmk := (K r1).2 _ _ _ h2
  have hA := m_ac hmo
  obtain ⟨g1, g2⟩ := m_room hH hE hA.1 hA.2 hmk
  refine m_call (va_runV (C := C) (b := o) (As := As) (Ts := []) ⟨hx, hb, hml, hown, fun w hw => absurd hw List.not_mem_nil⟩ (hM o _ r1 ws1 _ _ h1 hA) ⟨⟨rfl, rfl, hR.1, hR.2, m_code hk w4, List.mem_singleton.mpr rfl, hk.wd w4 args, hk.wd w3 args, ⟨hy.1, hy.2.1⟩, m_par hy, hk.wd w1 args⟩, hk.wd w2 args, hk.wd w5 args⟩ ⟨Pm.blind, m_recv hk hH hob hq, m_pre hk hH hz⟩ rfl rfl hsz hst (lv_room hW) hdg ⟨g1, g2⟩) hH hA fun H1 locs1 hH1 => ?_
  exact kk r1 ws1 H1 locs1 _ _ hH1 h2

theorem m_cVD (hx : p.tables.exec = Jvm.exec) (hb : c.code = cc) {nL : Nat} (hml : c.maxLocals = nL) (hown : s.vm.findClass own = some m.cls) (hk : KK D cy s) (hH : HI D cy z s ws0 ws H locs cells slots) (hE : AL ws0 wsf R.cells R.slots) (hz : z ≤ s.heap.size) {idx : Nat} {y : MethodName} {bytes : ByteArray} {maxL fr lo : Nat} {ret : Option FieldType} {F : Nat × Nat → St (UInt64)} {ci : Nat} {C : String} {T : u_T} {N : Nat} (hq : vwCl[ci]? = some (C, T, N)) {b : Option Nat} {As : List Value} (hM : ∀ o, MT l D cy z y bytes maxL ret fr lo (F (o, ci)) vD (.ref o :: As)) {K : UInt64 → St β} (hF : (bd (dr [ci] b) fun o => bd (F o) K).1 ws = some (rr, wsf)) (w1 : WD (.methodLink own idx y)) (w2 : WD (.instanceMethod y)) (w3 : WD (.initialized y.cls)) (w4 : WD (.code y bytes maxL ret)) (w5 : WD (.selects C y y)) (hy : YN y As.length) (hR : fr + 1 ≤ R.frames ∧ 8 + (maxL + 11) + lo ≤ R.locals) (hsz : ls.size = nL) (hW : (rest.map fun v => v.category).sum ≤ 8) {st0 : List Value} (hst : st0 = As.reverse ++ va_rf b :: rest) (hdg : decode cc pc = .ok (.invokevirtual idx, 3)) (kk : ∀ (r : UInt64) (ws1 : WS) (H1 : Heap) (locs1 : List Loc) (cells1 slots1 : Nat), HI D cy z s ws0 ws1 H1 locs1 cells1 slots1 → (K r).1 ws1 = some (rr, wsf) → W p l e R s m args below meth c H1 locs1 cells1 slots1 Q (F0 m (pc + 3) ls (.double r :: rest))) : W p l e R s m args below meth c H locs cells slots Q (F0 m pc ls st0) := by
  obtain ⟨⟨o, oc⟩, t0, g0, hG⟩ := bd_some hF
  obtain ⟨fs, rfl, hoc, hob, rfl⟩ := dr_some g0
  have hoc := List.mem_singleton.mp hoc
  dsimp only at hoc hob hst hG
  subst hoc
  obtain ⟨r1, ws1, h1, h2⟩ := bd_some hG
  have hmo := (F (o, oc)).2 _ _ _ h1
  have hmk := (K r1).2 _ _ _ h2
  have hA := m_ac hmo
  obtain ⟨g1, g2⟩ := m_room hH hE hA.1 hA.2 hmk
  refine m_call (va_runV (C := C) (b := o) (As := As) (Ts := []) ⟨hx, hb, hml, hown, fun w hw => absurd hw List.not_mem_nil⟩ (hM o _ r1 ws1 _ _ h1 hA) ⟨⟨rfl, rfl, hR.1, hR.2, m_code hk w4, List.mem_singleton.mpr rfl, hk.wd w4 args, hk.wd w3 args, ⟨hy.1, hy.2.1⟩, m_par hy, hk.wd w1 args⟩, hk.wd w2 args, hk.wd w5 args⟩ ⟨Pm.blind, m_recv hk hH hob hq, m_pre hk hH hz⟩ rfl rfl hsz hst (lv_room hW) hdg ⟨g1, g2⟩) hH hA fun H1 locs1 hH1 => ?_
  exact kk r1 ws1 H1 locs1 _ _ hH1 h2

theorem m_cVR (hx : p.tables.exec = Jvm.exec) (hb : c.code = cc) {nL : Nat} (hml : c.maxLocals = nL) (hown : s.vm.findClass own = some m.cls) (hk : KK D cy s) (hH : HI D cy z s ws0 ws H locs cells slots) (hE : AL ws0 wsf R.cells R.slots) (hz : z ≤ s.heap.size) {idx : Nat} {y : MethodName} {bytes : ByteArray} {maxL fr lo : Nat} {ret : Option FieldType} {F : Nat × Nat → St (Option Nat)} {ci : Nat} {C : String} {T : u_T} {N : Nat} (hq : vwCl[ci]? = some (C, T, N)) {b : Option Nat} {As : List Value} (hM : ∀ o, MT l D cy z y bytes maxL ret fr lo (F (o, ci)) vR (.ref o :: As)) {K : Option Nat → St β} (hF : (bd (dr [ci] b) fun o => bd (F o) K).1 ws = some (rr, wsf)) (w1 : WD (.methodLink own idx y)) (w2 : WD (.instanceMethod y)) (w3 : WD (.initialized y.cls)) (w4 : WD (.code y bytes maxL ret)) (w5 : WD (.selects C y y)) (hy : YN y As.length) (hR : fr + 1 ≤ R.frames ∧ 8 + (maxL + 11) + lo ≤ R.locals) (hsz : ls.size = nL) (hW : (rest.map fun v => v.category).sum ≤ 8) {st0 : List Value} (hst : st0 = As.reverse ++ va_rf b :: rest) (hdg : decode cc pc = .ok (.invokevirtual idx, 3)) (kk : ∀ (r : Option Nat) (ws1 : WS) (H1 : Heap) (locs1 : List Loc) (cells1 slots1 : Nat), HI D cy z s ws0 ws1 H1 locs1 cells1 slots1 → (K r).1 ws1 = some (rr, wsf) → W p l e R s m args below meth c H1 locs1 cells1 slots1 Q (F0 m (pc + 3) ls (va_rf r :: rest))) : W p l e R s m args below meth c H locs cells slots Q (F0 m pc ls st0) := by
  obtain ⟨⟨o, oc⟩, t0, g0, hG⟩ := bd_some hF
  obtain ⟨fs, rfl, hoc, hob, rfl⟩ := dr_some g0
  have hoc := List.mem_singleton.mp hoc
  dsimp only at hoc hob hst hG
  subst hoc
  obtain ⟨r1, ws1, h1, h2⟩ := bd_some hG
  have hmo := (F (o, oc)).2 _ _ _ h1
  have hmk := (K r1).2 _ _ _ h2
  have hA := m_ac hmo
  obtain ⟨g1, g2⟩ := m_room hH hE hA.1 hA.2 hmk
  refine m_call (va_runV (C := C) (b := o) (As := As) (Ts := []) ⟨hx, hb, hml, hown, fun w hw => absurd hw List.not_mem_nil⟩ (hM o _ r1 ws1 _ _ h1 hA) ⟨⟨rfl, rfl, hR.1, hR.2, m_code hk w4, List.mem_singleton.mpr rfl, hk.wd w4 args, hk.wd w3 args, ⟨hy.1, hy.2.1⟩, m_par hy, hk.wd w1 args⟩, hk.wd w2 args, hk.wd w5 args⟩ ⟨Pm.blind, m_recv hk hH hob hq, m_pre hk hH hz⟩ rfl rfl hsz hst (lv_room hW) hdg ⟨g1, g2⟩) hH hA fun H1 locs1 hH1 => ?_
  exact kk r1 ws1 H1 locs1 _ _ hH1 h2

theorem m_cVU (hx : p.tables.exec = Jvm.exec) (hb : c.code = cc) {nL : Nat} (hml : c.maxLocals = nL) (hown : s.vm.findClass own = some m.cls) (hk : KK D cy s) (hH : HI D cy z s ws0 ws H locs cells slots) (hE : AL ws0 wsf R.cells R.slots) (hz : z ≤ s.heap.size) {idx : Nat} {y : MethodName} {bytes : ByteArray} {maxL fr lo : Nat} {ret : Option FieldType} {F : Nat × Nat → St (Unit)} {ci : Nat} {C : String} {T : u_T} {N : Nat} (hq : vwCl[ci]? = some (C, T, N)) {b : Option Nat} {As : List Value} (hM : ∀ o, MT l D cy z y bytes maxL ret fr lo (F (o, ci)) vU (.ref o :: As)) {K : Unit → St β} (hF : (bd (dr [ci] b) fun o => bd (F o) K).1 ws = some (rr, wsf)) (w1 : WD (.methodLink own idx y)) (w2 : WD (.instanceMethod y)) (w3 : WD (.initialized y.cls)) (w4 : WD (.code y bytes maxL ret)) (w5 : WD (.selects C y y)) (hy : YN y As.length) (hR : fr + 1 ≤ R.frames ∧ 8 + (maxL + 11) + lo ≤ R.locals) (hsz : ls.size = nL) (hW : (rest.map fun v => v.category).sum ≤ 8) {st0 : List Value} (hst : st0 = As.reverse ++ va_rf b :: rest) (hdg : decode cc pc = .ok (.invokevirtual idx, 3)) (kk : ∀ (r : Unit) (ws1 : WS) (H1 : Heap) (locs1 : List Loc) (cells1 slots1 : Nat), HI D cy z s ws0 ws1 H1 locs1 cells1 slots1 → (K r).1 ws1 = some (rr, wsf) → W p l e R s m args below meth c H1 locs1 cells1 slots1 Q (F0 m (pc + 3) ls (rest))) : W p l e R s m args below meth c H locs cells slots Q (F0 m pc ls st0) := by
  obtain ⟨⟨o, oc⟩, t0, g0, hG⟩ := bd_some hF
  obtain ⟨fs, rfl, hoc, hob, rfl⟩ := dr_some g0
  have hoc := List.mem_singleton.mp hoc
  dsimp only at hoc hob hst hG
  subst hoc
  obtain ⟨r1, ws1, h1, h2⟩ := bd_some hG
  have hmo := (F (o, oc)).2 _ _ _ h1
  have hmk := (K r1).2 _ _ _ h2
  have hA := m_ac hmo
  obtain ⟨g1, g2⟩ := m_room hH hE hA.1 hA.2 hmk
  refine m_call (va_runV (C := C) (b := o) (As := As) (Ts := []) ⟨hx, hb, hml, hown, fun w hw => absurd hw List.not_mem_nil⟩ (hM o _ r1 ws1 _ _ h1 hA) ⟨⟨rfl, rfl, hR.1, hR.2, m_code hk w4, List.mem_singleton.mpr rfl, hk.wd w4 args, hk.wd w3 args, ⟨hy.1, hy.2.1⟩, m_par hy, hk.wd w1 args⟩, hk.wd w2 args, hk.wd w5 args⟩ ⟨Pm.blind, m_recv hk hH hob hq, m_pre hk hH hz⟩ rfl rfl hsz hst (lv_room hW) hdg ⟨g1, g2⟩) hH hA fun H1 locs1 hH1 => ?_
  exact kk r1 ws1 H1 locs1 _ _ hH1 h2

theorem m_cUI (hx : p.tables.exec = Jvm.exec) (hb : c.code = cc) {nL : Nat} (hml : c.maxLocals = nL) (hown : s.vm.findClass own = some m.cls) (hk : KK D cy s) (hH : HI D cy z s ws0 ws H locs cells slots) (hE : AL ws0 wsf R.cells R.slots) (hz : z ≤ s.heap.size) {idx : Nat} {fr lo : Nat → Nat} {x : MethodName} {y : Nat → MethodName} {bytes : Nat → ByteArray} {maxL : Nat → Nat} {ret : Option FieldType} {F : Nat × Nat → St (Int32)} {cs : List Nat} {b : Option Nat} {As : List Value} {owner : String} (hM : ∀ o, ∀ ci ∈ cs, MT l D cy z (y ci) (bytes ci) (maxL ci) ret (fr ci) (lo ci) (F (o, ci)) vI (.ref o :: As)) {K : Int32 → St β} (hF : (bd (dr cs b) fun o => bd (F o) K).1 ws = some (rr, wsf)) (w0 : WD (.methodLink own idx x)) (w1 : WD (.sameMethod x.cls owner x.name x.desc)) (w2 : va_Decl s ⟨owner, x.name, x.desc⟩) (wc : ∀ ci ∈ cs, ∃ q, vwCl[ci]? = some q ∧ WD (.selects q.1 x (y ci)) ∧ WD (.instanceMethod (y ci)) ∧ WD (.initialized (y ci).cls) ∧ WD (.code (y ci) (bytes ci) (maxL ci) ret) ∧ fr ci + 1 ≤ R.frames ∧ 8 + (maxL ci + 11) + lo ci ≤ R.locals) (hy : YN ⟨owner, x.name, x.desc⟩ As.length) (hsz : ls.size = nL) (hW : (rest.map fun v => v.category).sum ≤ 8) {st0 : List Value} (hst : st0 = As.reverse ++ va_rf b :: rest) (hdg : decode cc pc = .ok (.invokevirtual idx, 3)) (kk : ∀ (r : Int32) (ws1 : WS) (H1 : Heap) (locs1 : List Loc) (cells1 slots1 : Nat), HI D cy z s ws0 ws1 H1 locs1 cells1 slots1 → (K r).1 ws1 = some (rr, wsf) → W p l e R s m args below meth c H1 locs1 cells1 slots1 Q (F0 m (pc + 3) ls (.int r :: rest))) : W p l e R s m args below meth c H locs cells slots Q (F0 m pc ls st0) := by
  obtain ⟨⟨o, oc⟩, t0, g0, hG⟩ := bd_some hF
  obtain ⟨fs, rfl, hoc, hob, rfl⟩ := dr_some g0
  dsimp only at hoc hob hst hG
  obtain ⟨q, hq, v1, v2, v3, v4, v5, v6⟩ := wc oc hoc
  obtain ⟨r1, ws1, h1, h2⟩ := bd_some hG
  have hmo := (F (o, oc)).2 _ _ _ h1
  have hmk := (K r1).2 _ _ _ h2
  have hA := m_ac hmo
  obtain ⟨g1, g2⟩ := m_room hH hE hA.1 hA.2 hmk
  refine m_call (va_runU (C := q.1) (owner := owner) (x := x) (y := y oc) (b := o) (As := As) (Ts := []) ⟨hx, hb, hml, hown, fun w hw => absurd hw List.not_mem_nil⟩ (hM o oc hoc _ r1 ws1 _ _ h1 hA) ⟨⟨rfl, rfl, v5, v6, m_code hk v4, List.mem_singleton.mpr rfl⟩, hk.wd v4 args, hk.wd v3 args, ⟨hy.1, hy.2.1⟩, (m_par (y := ⟨owner, x.name, x.desc⟩) hy), hk.wd w0 args, hk.wd w1 args, w2, hk.wd v1 args, hk.wd v2 args⟩ ⟨Pm.blind, m_recv hk hH hob hq, m_pre hk hH hz⟩ rfl rfl hsz hst (lv_room hW) hdg ⟨g1, g2⟩) hH hA fun H1 locs1 hH1 => ?_
  exact kk r1 ws1 H1 locs1 _ _ hH1 h2

theorem m_cUR (hx : p.tables.exec = Jvm.exec) (hb : c.code = cc) {nL : Nat} (hml : c.maxLocals = nL) (hown : s.vm.findClass own = some m.cls) (hk : KK D cy s) (hH : HI D cy z s ws0 ws H locs cells slots) (hE : AL ws0 wsf R.cells R.slots) (hz : z ≤ s.heap.size) {idx : Nat} {fr lo : Nat → Nat} {x : MethodName} {y : Nat → MethodName} {bytes : Nat → ByteArray} {maxL : Nat → Nat} {ret : Option FieldType} {F : Nat × Nat → St (Option Nat)} {cs : List Nat} {b : Option Nat} {As : List Value} {owner : String} (hM : ∀ o, ∀ ci ∈ cs, MT l D cy z (y ci) (bytes ci) (maxL ci) ret (fr ci) (lo ci) (F (o, ci)) vR (.ref o :: As)) {K : Option Nat → St β} (hF : (bd (dr cs b) fun o => bd (F o) K).1 ws = some (rr, wsf)) (w0 : WD (.methodLink own idx x)) (w1 : WD (.sameMethod x.cls owner x.name x.desc)) (w2 : va_Decl s ⟨owner, x.name, x.desc⟩) (wc : ∀ ci ∈ cs, ∃ q, vwCl[ci]? = some q ∧ WD (.selects q.1 x (y ci)) ∧ WD (.instanceMethod (y ci)) ∧ WD (.initialized (y ci).cls) ∧ WD (.code (y ci) (bytes ci) (maxL ci) ret) ∧ fr ci + 1 ≤ R.frames ∧ 8 + (maxL ci + 11) + lo ci ≤ R.locals) (hy : YN ⟨owner, x.name, x.desc⟩ As.length) (hsz : ls.size = nL) (hW : (rest.map fun v => v.category).sum ≤ 8) {st0 : List Value} (hst : st0 = As.reverse ++ va_rf b :: rest) (hdg : decode cc pc = .ok (.invokevirtual idx, 3)) (kk : ∀ (r : Option Nat) (ws1 : WS) (H1 : Heap) (locs1 : List Loc) (cells1 slots1 : Nat), HI D cy z s ws0 ws1 H1 locs1 cells1 slots1 → (K r).1 ws1 = some (rr, wsf) → W p l e R s m args below meth c H1 locs1 cells1 slots1 Q (F0 m (pc + 3) ls (va_rf r :: rest))) : W p l e R s m args below meth c H locs cells slots Q (F0 m pc ls st0) := by
  obtain ⟨⟨o, oc⟩, t0, g0, hG⟩ := bd_some hF
  obtain ⟨fs, rfl, hoc, hob, rfl⟩ := dr_some g0
  dsimp only at hoc hob hst hG
  obtain ⟨q, hq, v1, v2, v3, v4, v5, v6⟩ := wc oc hoc
  obtain ⟨r1, ws1, h1, h2⟩ := bd_some hG
  have hmo := (F (o, oc)).2 _ _ _ h1
  have hmk := (K r1).2 _ _ _ h2
  have hA := m_ac hmo
  obtain ⟨g1, g2⟩ := m_room hH hE hA.1 hA.2 hmk
  refine m_call (va_runU (C := q.1) (owner := owner) (x := x) (y := y oc) (b := o) (As := As) (Ts := []) ⟨hx, hb, hml, hown, fun w hw => absurd hw List.not_mem_nil⟩ (hM o oc hoc _ r1 ws1 _ _ h1 hA) ⟨⟨rfl, rfl, v5, v6, m_code hk v4, List.mem_singleton.mpr rfl⟩, hk.wd v4 args, hk.wd v3 args, ⟨hy.1, hy.2.1⟩, (m_par (y := ⟨owner, x.name, x.desc⟩) hy), hk.wd w0 args, hk.wd w1 args, w2, hk.wd v1 args, hk.wd v2 args⟩ ⟨Pm.blind, m_recv hk hH hob hq, m_pre hk hH hz⟩ rfl rfl hsz hst (lv_room hW) hdg ⟨g1, g2⟩) hH hA fun H1 locs1 hH1 => ?_
  exact kk r1 ws1 H1 locs1 _ _ hH1 h2

theorem m_cUU (hx : p.tables.exec = Jvm.exec) (hb : c.code = cc) {nL : Nat} (hml : c.maxLocals = nL) (hown : s.vm.findClass own = some m.cls) (hk : KK D cy s) (hH : HI D cy z s ws0 ws H locs cells slots) (hE : AL ws0 wsf R.cells R.slots) (hz : z ≤ s.heap.size) {idx : Nat} {fr lo : Nat → Nat} {x : MethodName} {y : Nat → MethodName} {bytes : Nat → ByteArray} {maxL : Nat → Nat} {ret : Option FieldType} {F : Nat × Nat → St (Unit)} {cs : List Nat} {b : Option Nat} {As : List Value} {owner : String} (hM : ∀ o, ∀ ci ∈ cs, MT l D cy z (y ci) (bytes ci) (maxL ci) ret (fr ci) (lo ci) (F (o, ci)) vU (.ref o :: As)) {K : Unit → St β} (hF : (bd (dr cs b) fun o => bd (F o) K).1 ws = some (rr, wsf)) (w0 : WD (.methodLink own idx x)) (w1 : WD (.sameMethod x.cls owner x.name x.desc)) (w2 : va_Decl s ⟨owner, x.name, x.desc⟩) (wc : ∀ ci ∈ cs, ∃ q, vwCl[ci]? = some q ∧ WD (.selects q.1 x (y ci)) ∧ WD (.instanceMethod (y ci)) ∧ WD (.initialized (y ci).cls) ∧ WD (.code (y ci) (bytes ci) (maxL ci) ret) ∧ fr ci + 1 ≤ R.frames ∧ 8 + (maxL ci + 11) + lo ci ≤ R.locals) (hy : YN ⟨owner, x.name, x.desc⟩ As.length) (hsz : ls.size = nL) (hW : (rest.map fun v => v.category).sum ≤ 8) {st0 : List Value} (hst : st0 = As.reverse ++ va_rf b :: rest) (hdg : decode cc pc = .ok (.invokevirtual idx, 3)) (kk : ∀ (r : Unit) (ws1 : WS) (H1 : Heap) (locs1 : List Loc) (cells1 slots1 : Nat), HI D cy z s ws0 ws1 H1 locs1 cells1 slots1 → (K r).1 ws1 = some (rr, wsf) → W p l e R s m args below meth c H1 locs1 cells1 slots1 Q (F0 m (pc + 3) ls (rest))) : W p l e R s m args below meth c H locs cells slots Q (F0 m pc ls st0) := by
  obtain ⟨⟨o, oc⟩, t0, g0, hG⟩ := bd_some hF
  obtain ⟨fs, rfl, hoc, hob, rfl⟩ := dr_some g0
  dsimp only at hoc hob hst hG
  obtain ⟨q, hq, v1, v2, v3, v4, v5, v6⟩ := wc oc hoc
  obtain ⟨r1, ws1, h1, h2⟩ := bd_some hG
  have hmo := (F (o, oc)).2 _ _ _ h1
  have hmk := (K r1).2 _ _ _ h2
  have hA := m_ac hmo
  obtain ⟨g1, g2⟩ := m_room hH hE hA.1 hA.2 hmk
  refine m_call (va_runU (C := q.1) (owner := owner) (x := x) (y := y oc) (b := o) (As := As) (Ts := []) ⟨hx, hb, hml, hown, fun w hw => absurd hw List.not_mem_nil⟩ (hM o oc hoc _ r1 ws1 _ _ h1 hA) ⟨⟨rfl, rfl, v5, v6, m_code hk v4, List.mem_singleton.mpr rfl⟩, hk.wd v4 args, hk.wd v3 args, ⟨hy.1, hy.2.1⟩, (m_par (y := ⟨owner, x.name, x.desc⟩) hy), hk.wd w0 args, hk.wd w1 args, w2, hk.wd v1 args, hk.wd v2 args⟩ ⟨Pm.blind, m_recv hk hH hob hq, m_pre hk hH hz⟩ rfl rfl hsz hst (lv_room hW) hdg ⟨g1, g2⟩) hH hA fun H1 locs1 hH1 => ?_
  exact kk r1 ws1 H1 locs1 _ _ hH1 h2

end CALLS
