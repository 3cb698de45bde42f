/-! ===== both objects side by side ===== -/
/-- the cells of the two constructors lie in zone 1, but the first KNOTS -/
def ZS (Z : Nat → Nat) (z : Nat) : Prop := ∀ q, z ≤ q → q < z + 83 → ¬ (z + 15 ≤ q ∧ q < z + 18) → Z q = 1
theorem ZS.out {Z : Nat → Nat} {z q : Nat} (h : ZS Z z) (hq : ¬ Z q = 1) : q < z ∨ z + 83 ≤ q ∨ (z + 15 ≤ q ∧ q < z + 18) := by
  by_cases c : q < z ∨ z + 83 ≤ q ∨ (z + 15 ≤ q ∧ q < z + 18)
  · exact c
  · exact absurd (h q (by omega) (by omega) (by omega)) hq
def IC (z tk nc m : Nat) (Z ca cc : Nat → Nat) (ce : Nat → List Value) (so : Nat → Int32) (wk : Nat → Nat) (vl : Nat → Nat → Int32) (kp : Nat → Nat) (ws : WS) : Prop := CS z tk nc Z ca cc ce so wk vl kp ws ∧ MO ws.1 (z + 62) nc m ∧ MC ws.1 (z + 62) nc so wk vl ∧ ZS Z z ∧ (Z tk = 2 ∧ Z (tk + 1) = 2 ∧ Z (tk + 2) = 2) ∧ z < tk
def IS (z : Nat) (h : Nat → Option PE) (n : Nat → Nat) (cnt rf wt : Nat → Nat → Int32) : Prop := SA h z ∧ SC h z n cnt rf wt ∧ SI n cnt rf wt ∧ SM h (z + 62) n cnt rf wt
def IK (z tk m : Nat) (h : Nat → Option PE) (kc kv : Nat → Int32) : Prop := KC h tk m kc kv ∧ KM h (z + 62) m kc kv ∧ KI m kc kv
def IP (z nc : Nat) (ca : Nat → Nat) (h : Nat → Option PE) (pc : Nat → Option Nat) (pf : Nat → Int32) (pw pn : Nat → Nat) (pl : Nat → Nat → Int32) (pg : Nat → Int32) : Prop := PA h z ∧ PC h z ca pc pf pw pn pl pg ∧ PM h (z + 62) pc pf pw pn pl pg ∧ PI nc pc pf pw pn pl pg
def IT (z nc : Nat) (Z ca : Nat → Nat) (vl : Nat → Nat → Int32) (h : Nat → Option PE) (tcu : Nat → Option Nat) (tst ta : Nat → Nat) : Prop := TC h z Z ca vl tcu tst ta ∧ TM h (z + 62) vl tcu tst ∧ TI nc tcu tst
def IB (z : Nat) (h : Nat → Option PE) (sz : Nat → Int32) (A : BA) (mv : Nat → Nat → Int64) : Prop := B1 h (z + 5) sz A ∧ BM h (z + 62) sz mv ∧ BI sz ∧ BV sz A mv
/-- the room -/
def IR (z N nc : Nat) (kp : Nat → Nat) (ws : WS) : Prop := ws.2.1 + Sm kp nc ≤ z + 83 + 10 * nc + 2 * N ∧ ws.2.2 + 4096 * Sm kp nc ≤ 260000 + 17000 * nc + 263 * N
/-- after N calls -/
def INV (z N : Nat) (ws : WS) : Prop := ∃ (tk nc m : Nat) (Z ca cc : Nat → Nat) (ce : Nat → List Value) (so : Nat → Int32) (wk : Nat → Nat) (vl : Nat → Nat → Int32) (kp : Nat → Nat), IC z tk nc m Z ca cc ce so wk vl kp ws ∧ (∃ n cnt rf wt, IS z ws.1 n cnt rf wt) ∧ (∃ kc kv, IK z tk m ws.1 kc kv) ∧ (∃ pc pf pw pn pl pg, IP z nc ca ws.1 pc pf pw pn pl pg) ∧ (∃ tcu tst ta, IT z nc Z ca vl ws.1 tcu tst ta) ∧ (∃ sz A mv, IB z ws.1 sz A mv) ∧ IR z N nc kp ws
/-- the two calls answer alike -/
def JN {α : Type} (F1 F2 : St α) (z N : Nat) (ws : WS) : Prop := Hr F1 ws (fun r1 t1 => (∃ fs : List Value, t1.1 (z + 62) = some (.inr (10, fs))) ∧ Hr F2 t1 (fun r2 t2 => r1 = r2 ∧ INV z (N + 1) t2))
theorem IS.keep {z : Nat} {h h2 : Nat → Option PE} {n : Nat → Nat} {cnt rf wt : Nat → Nat → Int32} (hi : IS z h n cnt rf wt) (h0 : h2 (z + 1) = h (z + 1)) (h1 : ∀ q, z + 18 ≤ q → q < z + 50 → h2 q = h q) (h3 : ∀ q, z + 63 ≤ q → q < z + 67 → h2 q = h q) : IS z h2 n cnt rf wt := by
  obtain ⟨⟨g, a, b⟩, c, d, e⟩ := hi
  exact ⟨⟨g, h0.trans a, b⟩, c.keep h1, d, e.keep (fun q x y => h3 q (by omega) (by omega))⟩
theorem IK.keep {z tk m : Nat} {h h2 : Nat → Option PE} {kc kv : Nat → Int32} (hi : IK z tk m h kc kv) (h0 : ∀ q, tk ≤ q → q < tk + 3 → h2 q = h q) (h1 : ∀ q, z + 70 ≤ q → q < z + 72 → h2 q = h q) : IK z tk m h2 kc kv := by
  obtain ⟨a, b, c⟩ := hi
  exact ⟨a.keep h0, b.keep (fun q x y => h1 q (by omega) (by omega)), c⟩
theorem PI.up {nc nc2 : Nat} {pc : Nat → Option Nat} {pf : Nat → Int32} {pw pn : Nat → Nat} {pl : Nat → Nat → Int32} {pg : Nat → Int32} (h : PI nc pc pf pw pn pl pg) (hn : nc ≤ nc2) : PI nc2 pc pf pw pn pl pg := by
  intro p hp
  obtain ⟨a, b⟩ := h p hp
  exact ⟨fun c hc => Nat.lt_of_lt_of_le (a c hc) hn, b⟩
theorem IP.keep {z nc nc2 : Nat} {ca ca2 : Nat → Nat} {h h2 : Nat → Option PE} {pc : Nat → Option Nat} {pf : Nat → Int32} {pw pn : Nat → Nat} {pl : Nat → Nat → Int32} {pg : Nat → Int32} (hi : IP z nc ca h pc pf pw pn pl pg) (hn : nc ≤ nc2) (hca : ∀ i, i < nc → ca2 i = ca i) (h0 : h2 (z + 3) = h (z + 3)) (h1 : ∀ q, z + 50 ≤ q → q < z + 62 → h2 q = h q) (h3 : ∀ q, z + 72 ≤ q → q < z + 78 → h2 q = h q) : IP z nc2 ca2 h2 pc pf pw pn pl pg := by
  obtain ⟨⟨g, a, b⟩, c, d, e⟩ := hi
  exact ⟨⟨g, h0.trans a, b⟩, c.keep e h1 hca, d.keep (fun q x y => h3 q (by omega) (by omega)), e.up hn⟩
theorem TI.up {nc nc2 : Nat} {tcu : Nat → Option Nat} {tst : Nat → Nat} (h : TI nc tcu tst) (hn : nc ≤ nc2) : TI nc2 tcu tst := fun t c a b => ⟨Nat.lt_of_lt_of_le (h t c a b).1 hn, (h t c a b).2⟩
theorem IT.keep {z nc nc2 : Nat} {Z Z2 ca ca2 : Nat → Nat} {vl vl2 : Nat → Nat → Int32} {h h2 : Nat → Option PE} {tcu : Nat → Option Nat} {tst ta : Nat → Nat} (hi : IT z nc Z ca vl h tcu tst ta) (hn : nc ≤ nc2) (hca : ∀ i, i < nc → ca2 i = ca i ∧ vl2 i = vl i) (h0 : h2 (z + 4) = h (z + 4)) (h1 : ∀ q, Z q = 3 → Z2 q = 3 ∧ h2 q = h q) (h3 : ∀ q, z + 78 ≤ q → q < z + 81 → h2 q = h q) : IT z nc2 Z2 ca2 vl2 h2 tcu tst ta := by
  obtain ⟨a, b, c⟩ := hi
  exact ⟨a.keep c h1 h0 hca, b.keep c (fun q x y => h3 q (by omega) (by omega)) (fun i hi => (hca i hi).2), c.up hn⟩
theorem IB.keep {z : Nat} {h h2 : Nat → Option PE} {sz : Nat → Int32} {A : BA} {mv : Nat → Nat → Int64} (hi : IB z h sz A mv) (h0 : ∀ q, z + 5 ≤ q → q < z + 15 → h2 q = h q) (h1 : ∀ q, z + 81 ≤ q → q < z + 83 → h2 q = h q) : IB z h2 sz A mv := by
  obtain ⟨a, b, c, d⟩ := hi
  exact ⟨a.keep h0, b.keep (fun q x y => h1 q (by omega) (by omega)), c, d⟩
theorem IR.up {z N nc : Nat} {kp : Nat → Nat} {ws t : WS} (h : IR z N nc kp ws) (ht : t.2 = ws.2) : IR z (N + 1) nc kp t := by
  obtain ⟨a, b⟩ := h
  unfold IR
  rw [ht]
  exact ⟨by omega, by omega⟩
section IKEEP
variable {z tk nc m : Nat} {Z ca cc : Nat → Nat} {ce : Nat → List Value} {so : Nat → Int32} {wk : Nat → Nat} {vl : Nat → Nat → Int32} {kp : Nat → Nat} {ws : WS}
theorem IC.keep {t : WS} {Z2 : Nat → Nat} (hi : IC z tk nc m Z ca cc ce so wk vl kp ws) (h0 : ∀ q, (q = z ∨ q = z + 2 ∨ 4 ≤ Z q) → Z2 q = Z q ∧ t.1 q = ws.1 q) (hz : ZA Z2 t.2.1) (h1 : t.1 (z + 62) = ws.1 (z + 62)) (h2 : ∀ q, z + 67 ≤ q → q < z + 70 → t.1 q = ws.1 q) (h3 : ∀ q, Z q = 1 ∨ Z q = 2 → Z2 q = Z q) : IC z tk nc m Z2 ca cc ce so wk vl kp t := by
  obtain ⟨a, b, c, d, e, f⟩ := hi
  refine ⟨a.keep h0 hz, h1.trans b, c.keep (fun q x y => h2 q (by omega) (by omega)), fun q x y w => ?_, ⟨(h3 _ (Or.inr e.1)).trans e.1, (h3 _ (Or.inr e.2.1)).trans e.2.1, (h3 _ (Or.inr e.2.2)).trans e.2.2⟩, f⟩
  have e1 := d q x y w
  rw [h3 q (Or.inl e1)]
  exact e1
theorem IC.out (hi : IC z tk nc m Z ca cc ce so wk vl kp ws) : (∀ q, 4 ≤ Z q → q < z ∨ z + 83 ≤ q ∨ (z + 15 ≤ q ∧ q < z + 18)) ∧ (∀ q, tk ≤ q → q < tk + 3 → q < z ∨ z + 83 ≤ q ∨ (z + 15 ≤ q ∧ q < z + 18)) ∧ (∀ q, Z q = 3 → q < z ∨ z + 83 ≤ q ∨ (z + 15 ≤ q ∧ q < z + 18)) ∧ (∀ q, tk ≤ q → q < tk + 3 → Z q = 2) := by
  obtain ⟨-, -, -, d, e, -⟩ := hi
  have h2 : ∀ q, tk ≤ q → q < tk + 3 → Z q = 2 := by
    intro q a b
    by_cases e1 : q = tk
    · rw [e1]; exact e.1
    · by_cases e2 : q = tk + 1
      · rw [e2]; exact e.2.1
      · rw [show q = tk + 2 by omega]; exact e.2.2
  exact ⟨fun q h => d.out (by omega), fun q a b => d.out (by rw [h2 q a b]; decide), fun q h => d.out (by omega), h2⟩
/-- nothing has changed -/
theorem INV.same {N : Nat} (h : INV z N ws) : INV z (N + 1) ws := by
  obtain ⟨tk, nc, m, Z, ca, cc, ce, so, wk, vl, kp, a, b, c, d, e, f, g⟩ := h
  exact ⟨tk, nc, m, Z, ca, cc, ce, so, wk, vl, kp, a, b, c, d, e, f, g.up rfl⟩
end IKEEP
