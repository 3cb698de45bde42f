/-! ===== the two constructors ===== -/
/-- an object at o, and the arrays made since behind it -/
def AR (h0 : Nat → Option PE) (o c : Nat) (fs : List Value) (l : List PE) (sl : Nat) (ws : WS) : Prop := ws.1 o = some (ob c fs) ∧ (∀ i e, l[i]? = some e → ws.1 (o + 1 + i) = some e) ∧ ws.2 = (o + 1 + l.length, sl) ∧ ∀ q, q < o → ws.1 q = h0 q
section AR
variable {h0 : Nat → Option PE} {o c sl : Nat} {fs : List Value} {l : List PE} {β : Type} {ws : WS} {P : β → WS → Prop}
theorem ar_0 {h : Nat → Option PE} : AR h o c fs [] sl (m_up h o (ob c fs), o + 1, sl) := ⟨up_eq rfl, fun i e h => by simp at h, rfl, fun q hq => up_ne (by omega) rfl⟩
theorem ar_nA {ty k N : Nat} {n : Int32} {K : Unit → St β} (h : AR h0 o c fs l sl ws) (hn : ¬ (n < 0 ∨ 1000000 < n.toNatClampNeg)) (hN : n.toNatClampNeg = N) (hk : k < fs.length) (hK : ∀ t, AR h0 o c (fs.set k (.ref (o + 1 + l.length))) (l ++ [.inl (ty, (N, m_dft ty))]) (sl + N) t → Hr (K ()) t P) : Hr (bd (nA ty n) fun a => bd (pV [c] k (some o) (va_rf (some a))) K) ws P := by
  obtain ⟨a1, a2, a3, a4⟩ := h
  obtain ⟨w, p, s⟩ := ws
  have e1 : p = o + 1 + l.length := congrArg Prod.fst a3
  have e2 : s = sl := congrArg Prod.snd a3
  subst e1
  subst e2
  refine hb_nA hn ?_
  rw [hN]
  dsimp only
  refine hb_pV (up_ne (by omega) a1) (List.mem_singleton.mpr rfl) hk ?_
  refine hK _ ⟨up_eq rfl, fun i e h => ?_, ?_, fun q hq => ?_⟩
  · by_cases hi : i < l.length
    · rw [List.getElem?_append_left hi] at h
      exact up_ne (by omega) (up_ne (by omega) (a2 i e h))
    · rw [List.getElem?_append_right (by omega)] at h
      cases hz : i - l.length with
      | zero =>
        rw [hz] at h
        cases h
        exact up_ne (by omega) (up_eq (by omega))
      | succ k =>
        rw [hz] at h
        simp at h
  · rw [List.length_append]
    rfl
  · exact up_ne (by omega) (up_ne (by omega) (a4 q hq))
theorem ar_pV {k : Nat} {v : Value} {K : Unit → St β} (h : AR h0 o c fs l sl ws) (hk : k < fs.length) (hK : ∀ t, AR h0 o c (fs.set k v) l sl t → Hr (K ()) t P) : Hr (bd (pV [c] k (some o) v) K) ws P := by
  obtain ⟨a1, a2, a3, a4⟩ := h
  refine hb_pV a1 (List.mem_singleton.mpr rfl) hk ?_
  exact hK _ ⟨up_eq rfl, fun i e h => up_ne (by omega) (a2 i e h), a3, fun q hq => up_ne (by omega) (a4 q hq)⟩
end AR
theorem i_sens {h : Nat → Option PE} {a sl : Nat} : Hr (F_X8_init a) (m_up h a (ob 7 [.null, .null, .null, .int 0]), a + 1, sl) (fun _ t => S1 t.1 a 0 (fun _ => 0) (fun _ => 0) (fun _ => 0) ∧ t.2 = (a + 4, sl + 72) ∧ ∀ q, q < a → t.1 q = h q) := by
  unfold F_X8_init
  refine ar_nA (N := 24) ar_0 (by decide) (by decide) (by simp) (fun t1 h1 => ?_)
  refine ar_nA (N := 24) h1 (by decide) (by decide) (by simp) (fun t2 h2 => ?_)
  refine ar_nA (N := 24) h2 (by decide) (by decide) (by simp) (fun t3 h3 => ?_)
  refine ar_pV h3 (by simp) (fun t4 h4 => ?_)
  obtain ⟨g1, g2, g3, g4⟩ := h4
  exact hr_rt ⟨⟨g1, g2 0 _ rfl, g2 1 _ rfl, g2 2 _ rfl⟩, g3, g4⟩
theorem i_prob {h : Nat → Option PE} {a sl : Nat} : Hr (F_X6_init a) (m_up h a (ob 5 [.null, .null, .null, .int 0, .int 0, .int 0, .int 0]), a + 1, sl) (fun _ t => P1 t.1 a none 0 1 0 0 (fun _ => 0) (fun _ => 0) ∧ t.2 = (a + 3, sl + 18) ∧ ∀ q, q < a → t.1 q = h q) := by
  unfold F_X6_init
  refine ar_nA (N := 9) ar_0 (by decide) (by decide) (by simp) (fun t1 h1 => ?_)
  refine ar_nA (N := 9) h1 (by decide) (by decide) (by simp) (fun t2 h2 => ?_)
  refine ar_pV h2 (by simp) (fun t3 h3 => ?_)
  refine ar_pV h3 (by simp) (fun t4 h4 => ?_)
  refine ar_pV h4 (by simp) (fun t5 h5 => ?_)
  refine ar_pV h5 (by simp) (fun t6 h6 => ?_)
  refine ar_pV h6 (by simp) (fun t7 h7 => ?_)
  obtain ⟨g1, g2, g3, g4⟩ := h7
  exact hr_rt ⟨⟨g1, g2 0 _ rfl, g2 1 _ rfl⟩, g3, g4⟩
theorem i_knot {h : Nat → Option PE} {a sl : Nat} : Hr (F_X3_init a) (m_up h a (ob 2 [.null, .null, .int 0]), a + 1, sl) (fun _ t => K1 t.1 a 0 (fun _ => 0) (fun _ => 0) ∧ t.2 = (a + 3, sl + 64) ∧ ∀ q, q < a → t.1 q = h q) := by
  unfold F_X3_init
  refine ar_nA (N := 32) ar_0 (by decide) (by decide) (by simp) (fun t1 h1 => ?_)
  refine ar_nA (N := 32) h1 (by decide) (by decide) (by simp) (fun t2 h2 => ?_)
  refine ar_pV h2 (by simp) (fun t3 h3 => ?_)
  obtain ⟨g1, g2, g3, g4⟩ := h3
  exact hr_rt ⟨⟨g1, g2 0 _ rfl, g2 1 _ rfl⟩, g3, g4⟩
/-- a loop that writes the same value at the first n places of one array -/
theorem i_fill {L : Nat → Int32 → St Unit} {B : (Int32 → St Unit) → Int32 → St Unit} {P : Unit → WS → Prop} (hL : ∀ n s, L (n + 1) s = B (L n) s) {ws : WS} {n a : Nat} {v : Int32} {f0 : Nat → Int32} (hn : n < 100) (h0 : ws.1 a = some (cI n f0))
    (hs : ∀ (j : Nat) (w : WS) (rec : Int32 → St Unit) (f : Nat → Int32), j < n → (∀ q, q ≠ a → w.1 q = ws.1 q) → w.1 a = some (cI n f) → Hr (rec (nI (j + 1))) (m_up w.1 a (cI n (upd f j v)), w.2) P → Hr (B rec (nI j)) w P)
    (he : ∀ (w : WS) (rec : Int32 → St Unit) (f : Nat → Int32), w.2 = ws.2 → (∀ q, q ≠ a → w.1 q = ws.1 q) → w.1 a = some (cI n f) → (∀ j, j < n → f j = v) → Hr (B rec (nI n)) w P) : Hr (L FU 0) ws P := by
  refine hr_loop L B hL n (fun j s w => s = nI j ∧ w.2 = ws.2 ∧ (∀ q, q ≠ a → w.1 q = ws.1 q) ∧ ∃ f : Nat → Int32, w.1 a = some (cI n f) ∧ ∀ x, x < j → f x = v) ?_ ?_ n FU 0 0 ws (by unfold FU; omega) (by omega) ⟨rfl, rfl, fun _ _ => rfl, f0, h0, fun x hx => by omega⟩
  · intro j s w rec hj hI hrec
    obtain ⟨rfl, w1, w2, f, w3, w4⟩ := hI
    refine hs j w rec f hj w2 w3 (hrec _ _ ⟨rfl, w1, fun q hq => up_ne hq (w2 q hq), _, up_eq rfl, fun x hx => ?_⟩)
    by_cases e : x = j
    · rw [e, pk_us]
    · rw [pk_un e]
      exact w4 x (by omega)
  · intro s w rec hI
    obtain ⟨rfl, w1, w2, f, w3, w4⟩ := hI
    exact he w rec f w1 w2 w3 w4
theorem i_bank {h : Nat → Option PE} {a sl : Nat} : Hr (F_X0_init a) (m_up h a (ob 0 [.null, .null, .null, .null, .null, .null, .null, .null, .null]), a + 1, sl) (fun _ t => (∃ sz : Nat → Int32, (∀ b, b < 8 → sz b = -1) ∧ B1 t.1 a sz (fun _ => 0, fun _ => 0, fun _ => 0, fun _ => 0, fun _ => 0, fun _ => 0, fun _ => 0, fun _ => 0)) ∧ t.2 = (a + 10, sl + 520) ∧ ∀ q, q < a → t.1 q = h q) := by
  unfold F_X0_init
  refine ar_nA (N := 8) ar_0 (by decide) (by decide) (by simp) (fun t1 h1 => ?_)
  refine ar_nA (N := 64) h1 (by decide) (by decide) (by simp) (fun t2 h2 => ?_)
  refine ar_nA (N := 64) h2 (by decide) (by decide) (by simp) (fun t3 h3 => ?_)
  refine ar_nA (N := 64) h3 (by decide) (by decide) (by simp) (fun t4 h4 => ?_)
  refine ar_nA (N := 64) h4 (by decide) (by decide) (by simp) (fun t5 h5 => ?_)
  refine ar_nA (N := 64) h5 (by decide) (by decide) (by simp) (fun t6 h6 => ?_)
  refine ar_nA (N := 64) h6 (by decide) (by decide) (by simp) (fun t7 h7 => ?_)
  refine ar_nA (N := 64) h7 (by decide) (by decide) (by simp) (fun t8 h8 => ?_)
  refine ar_nA (N := 64) h8 (by decide) (by decide) (by simp) (fun t9 h9 => ?_)
  obtain ⟨g1, g2, g3, g4⟩ := h9
  have k0 : t9.1 a = some (ob 0 [.ref (a + 1), .ref (a + 2), .ref (a + 3), .ref (a + 4), .ref (a + 5), .ref (a + 6), .ref (a + 7), .ref (a + 8), .ref (a + 9)]) := g1
  have k1 : t9.1 (a + 1) = some (cI 8 fun _ => 0) := g2 0 _ rfl
  refine i_fill (L := l_X0_init_78 a (rt ())) (B := fun rec s => b_X0_init_78 a rec (rt ()) s) (fun _ _ => rfl) (v := -1) (by decide) k1 ?_ ?_
  · intro j w rec f hj w2 w3 hr
    unfold b_X0_init_78
    refine hr_f (nI_ge hj (by decide)) ?_
    refine hb_gRs ((w2 _ (by omega)).trans k0) (by decide) rfl ?_
    refine hb_sI w3 (nI_in hj (by decide)) ?_
    rw [nI_clamp (by omega), nI_1]
    exact hr
  · intro w rec f w1 w2 w3 w4
    unfold b_X0_init_78
    refine hr_t (nI_le (Nat.le_refl _) (by decide)) (hr_rt ⟨⟨f, w4, (w2 _ (by omega)).trans k0, w3, (w2 _ (by omega)).trans (g2 1 _ rfl), (w2 _ (by omega)).trans (g2 2 _ rfl), (w2 _ (by omega)).trans (g2 3 _ rfl), (w2 _ (by omega)).trans (g2 4 _ rfl), (w2 _ (by omega)).trans (g2 5 _ rfl), (w2 _ (by omega)).trans (g2 6 _ rfl), (w2 _ (by omega)).trans (g2 7 _ rfl), (w2 _ (by omega)).trans (g2 8 _ rfl)⟩, w1.trans g3, fun q hq => (w2 q (by omega)).trans (g4 q hq)⟩)
