/-! ===== the law from its entry, out of the pure computation ===== -/
/-- what is owed of the pure computation: it ends with 1, in the room -/
def PureLaw : Prop := ∀ (xs : Nat → Int32) (L z : Nat), L ≤ 2560 → ∃ wsf : WS, (F_L_law xs L).1 (fun _ => none, z, 0) = some ((1 : Int32), wsf) ∧ wsf.2.1 ≤ z + 600000 ∧ wsf.2.2 ≤ 7302250
theorem ks_inst : vwCl.all (fun q => decide (Cond.instantiable q.1 q.2.2 ∈ lw_tbl)) = true := by decide +kernel
theorem ks_prim : (List.range 8).all (fun t => decide (Cond.arrayClass (m_aty t) ∈ lw_tbl)) = true := by decide +kernel
theorem ks_over : (List.range 4).all (fun t => decide (Cond.arrayOver (m_aty (t + 8)) ∈ lw_tbl)) = true := by decide +kernel
theorem ks_arr {s : State} {av : Array Value} (hts : ∀ w ∈ lw_tbl, w.before av s = true) (t : Nat) : ∃ cA : ClassId, t < 12 → ArrOfT s cA (m_aty t) ∧ va_RA s cA (m_aty t) := by
  by_cases h8 : t < 8
  · have hw : Cond.arrayClass (m_aty t) ∈ lw_tbl := by
      have h1 := List.all_eq_true.mp ks_prim t (List.mem_range.mpr h8)
      exact of_decide_eq_true h1
    obtain ⟨c, k, comp, f1, f2, f3⟩ := Cond.arrayClass_spec (hts _ hw)
    refine ⟨c, fun _ => ⟨fun n z => ⟨fun k h => (by cases h), k, f2, comp, f3⟩, ?_⟩⟩
    match t, h8, f1 with
    | 0, _, f1 => exact f1
    | 1, _, f1 => exact f1
    | 2, _, f1 => exact f1
    | 3, _, f1 => exact f1
    | 4, _, f1 => exact f1
    | 5, _, f1 => exact f1
    | 6, _, f1 => exact f1
    | 7, _, f1 => exact f1
    | k + 8, h, _ => exact absurd h (by omega)
  · by_cases h12 : t < 12
    · have hw : Cond.arrayOver (m_aty t) ∈ lw_tbl := by
        have h1 := List.all_eq_true.mp ks_over (t - 8) (List.mem_range.mpr (by omega))
        have h2 := of_decide_eq_true h1
        rw [show t - 8 + 8 = t by omega] at h2
        exact h2
      obtain ⟨C, hC⟩ : ∃ C, m_aty t = .object C := by
        match t, h8, h12 with
        | 8, _, _ => exact ⟨_, rfl⟩
        | 9, _, _ => exact ⟨_, rfl⟩
        | 10, _, _ => exact ⟨_, rfl⟩
        | 11, _, _ => exact ⟨_, rfl⟩
        | k + 12, _, h => exact absurd h (by omega)
        | 0, h, _ => exact absurd h (by omega)
        | 1, h, _ => exact absurd h (by omega)
        | 2, h, _ => exact absurd h (by omega)
        | 3, h, _ => exact absurd h (by omega)
        | 4, h, _ => exact absurd h (by omega)
        | 5, h, _ => exact absurd h (by omega)
        | 6, h, _ => exact absurd h (by omega)
        | 7, h, _ => exact absurd h (by omega)
      rw [hC] at hw ⊢
      obtain ⟨comp, c, k, f1, -, f3, f4, f5⟩ := Cond.arrayOver_spec (hts _ hw)
      exact ⟨c, fun _ => ⟨fun n z => ⟨fun k h => (by cases h), k, f3, comp, f4⟩, k, comp, f3, f4, f1, f5⟩⟩
    · exact ⟨0, fun h => absurd h h12⟩
theorem ks_kk {s : State} {av : Array Value} (hts : ∀ w ∈ lw_tbl, w.before av s = true) : ∃ (D : va_G) (cy : Nat → ClassId), KK D cy s := by
  have hw : ∀ w ∈ lw_tbl, okw w = true → w.before #[] s = true := fun w hw ho => okw_moved ho (State.WarmedH.refl s) (hts w hw)
  have hwf : ∀ w ∈ lw_tbl.filter okw, w.before av s = true := fun w h => hts w (List.mem_filter.mp h).1
  have hc : ∀ c : Nat, ∃ r : ClassId × (Nat → Nat), ∀ q : vw_C, vwCl[c]? = some q → u_Kn s q.1 q.2.1 q.2.2 r.1 r.2 := by
    intro c
    cases h : vwCl[c]? with
    | none => exact ⟨(0, fun _ => 0), fun q hq => by cases hq⟩
    | some q =>
      have hi : Cond.instantiable q.1 q.2.2 ∈ lw_tbl := of_decide_eq_true (List.all_eq_true.mp ks_inst q (List.mem_of_getElem? h))
      obtain ⟨cC, iS, hK⟩ := u_known (C := q.1) (T := q.2.1) (N := q.2.2) hwf (m_in h) (hts _ hi)
      exact ⟨(cC, iS), fun q2 hq => by cases hq; exact hK⟩
  refine ⟨(fun c => (Classical.choose (hc c)).1, fun c => (Classical.choose (hc c)).2), fun t => Classical.choose (ks_arr hts t), ⟨fun c q hq => Classical.choose_spec (hc c) q hq, fun k q hq => ?_⟩, hw⟩
  have hk : k < 12 := by
    have := (List.getElem?_eq_some_iff.mp hq).1
    simpa [m_tys] using this
  rw [m_tys_at _ hk] at hq
  cases hq
  exact Classical.choose_spec (ks_arr hts k) hk
/-- the walk of the law's body from its entry, out of the pure computation -/
theorem whole_of (hpl : PureLaw) {p : Program} {e : Env} {s : State} {m : MethodId} {below : List Frame} {meth : Method} {c : Code} (l : Launch) {b L : Nat} {xs : Nat → Int32} (hL : L ≤ 2560) (C0 : lw_At p s m meth c b L xs) : W p l e room_1 s m #[Value.ref b] below meth c s.heap [] 0 0 (lw_Z below #[Value.ref b] s) (entryFrame m ([Value.ref b] : List Value).toArray 8) := by
  obtain ⟨hx, hb, hr, hml, hown, hts, hX, hbl, hlocks, hgv⟩ := id C0
  obtain ⟨D, cy, hk⟩ := ks_kk hts
  obtain ⟨wsf, hF, g1, g2⟩ := hpl xs L s.heap.size hL
  have hl := lv_entry ([.ref b]) (n := 8) (Nat.le_of_ble_eq_true rfl)
  rw [lg_entry_eq]
  have hE : AL (fun _ => none, s.heap.size, 0) wsf room_1.cells room_1.slots := by
    have e1 : room_1.cells = 600000 := rfl
    have e2 : room_1.slots = 7302250 := rfl
    unfold AL
    rw [e1, e2]
    dsimp only
    exact ⟨g1, by omega⟩
  have hfr : 2000 ≤ room_1.frames := by decide
  have hlo : 80000 ≤ room_1.locals := by decide
  have cx : LX D cy s.heap.size p s m meth c b L xs := ⟨hx, hb, hr, hml, hown, hk, Nat.le_refl _, hlocks, hX, hbl, Nat.not_le.mpr hbl, Nat.le_refl _, hfr, hlo⟩
  have hH : HI D cy s.heap.size s (fun _ => none, s.heap.size, 0) (fun _ => none, s.heap.size, 0) s.heap [] 0 0 := ⟨⟨rfl, fun a e h => by cases h⟩, va_S.rf, ⟨rfl, rfl⟩⟩
  exact t_L_law cx hE _ s.heap [] 0 0 _ hl hH hF
theorem pure_law : PureLaw := by
  intro xs L z hL
  obtain ⟨r, t, h, e, g1, g2⟩ := law_runs (xs := xs) (z := z) hL
  subst e
  exact ⟨t, h, g1, g2⟩
