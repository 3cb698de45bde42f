/-! ===== before the first call ===== -/
theorem neg_pcv : pcv none = -1 := rfl
theorem i_first {t u : WS} {z : Nat} (hO : OZ t z) (hM : MO u.1 (z + 62) 0 0) (hZ : MZ u (z + 62)) (fr : ∀ q, q < z + 62 → u.1 q = t.1 q) (h2 : u.2.1 = z + 83) (h3 : u.2.2 ≤ 260000) : INV z 0 u := by
  obtain ⟨o1, ⟨gs, o2, o2b⟩, o3, ⟨gp, o4, o4b⟩, o5, ⟨sz, o6, o7⟩, o8, o9, o10⟩ := hO
  obtain ⟨r1, r2, r3, r4, r5, r6, r7, r8, r9, r11, r13, r14, r15, r17, r18, r20, ⟨f10, r10, s10⟩, ⟨f12, r12, s12⟩, ⟨f16, r16, s16⟩, ⟨f19, r19, s19⟩⟩ := hZ
  have hz1 : ∀ q, z ≤ q → q < z + 83 → ¬ (z + 15 ≤ q ∧ q < z + 18) → (if q < z ∨ z + 83 ≤ q then 0 else if z + 15 ≤ q ∧ q < z + 18 then 2 else 1 : Nat) = 1 := by
    intro q a b c
    rw [if_neg (by omega), if_neg c]
  have hz2 : ∀ q, z + 15 ≤ q → q < z + 18 → (if q < z ∨ z + 83 ≤ q then 0 else if z + 15 ≤ q ∧ q < z + 18 then 2 else 1 : Nat) = 2 := by
    intro q a b
    rw [if_neg (by omega), if_pos ⟨a, b⟩]
  have n0 : ∀ {k : Nat} {p : Prop}, k < 0 → p := fun h => absurd h (Nat.not_lt_zero _)
  have hIS : IS z u.1 (fun _ => 0) (fun _ _ => 0) (fun _ _ => 0) (fun _ _ => 0) := ⟨⟨gs, (fr _ (by omega)).trans o2, o2b⟩, fun s hs => ⟨_, _, _, (o9 s hs).keep (fun q a b => fr q (by omega)), fun k hk => n0 hk⟩, fun s hs => ⟨Nat.zero_le _, fun k hk => n0 hk⟩, ⟨_, _, _, _, r1, r2, r3, r4, fun s hs => ⟨rfl, fun k hk => n0 hk⟩⟩⟩
  have hIK : IK z (z + 15) 0 u.1 (fun _ => 0) (fun _ => 0) := ⟨⟨_, _, o8.keep (fun q a b => fr q (by omega)), fun j hj => n0 hj⟩, ⟨_, _, r8, r9, fun j hj => n0 hj⟩, Nat.zero_le _, ⟨fun j hj => n0 hj, fun i j a b => n0 b⟩, fun j hj => n0 hj⟩
  have hPC : PC u.1 z (fun _ => 0) (fun _ => none) (fun _ => 0) (fun _ => 1) (fun _ => 0) (fun _ _ => 0) (fun _ => 0) := by
    intro p hp
    exact ⟨fun _ => 0, fun _ => 0, (o10 p hp).keep (fun q a b => fr q (by omega)), fun k hk => n0 hk⟩
  have hPI : PI 0 (fun _ => none) (fun _ => 0) (fun _ => 1) (fun _ => 0) (fun _ _ => 0) (fun _ => 0) := by
    intro p hp
    exact ⟨fun c h => (by cases h), Or.inl rfl, Nat.le_refl _, (show (1 : Nat) ≤ 9 by decide), Nat.zero_le _, fun k hk => n0 hk, fun h => n0 h⟩
  have hPM : PM u.1 (z + 62) (fun _ => none) (fun _ => 0) (fun _ => 1) (fun _ => 0) (fun _ _ => 0) (fun _ => 0) := ⟨_, _, _, _, _, _, r10, r11, r12, r13, r14, r15, fun p hp => ⟨s10 p hp, rfl, s12 p hp, rfl, fun k hk => n0 hk, rfl⟩⟩
  have hTC : TC u.1 z (fun q => if q < z ∨ z + 83 ≤ q then 0 else if z + 15 ≤ q ∧ q < z + 18 then 2 else 1) (fun _ => 0) (fun _ _ => 0) (fun _ => none) (fun _ => 0) (fun _ => 0) := by
    refine ⟨_, (fr _ (by omega)).trans o5, fun _ _ _ => rfl, fun t c _ h => ?_, fun t t2 c c2 _ _ _ h => ?_⟩
    · cases h
    · cases h
  have hTM : TM u.1 (z + 62) (fun _ _ => 0) (fun _ => none) (fun _ => 0) := by
    refine ⟨_, _, _, r16, r17, r18, fun p hp => ⟨s16 p hp, fun c h => ?_⟩⟩
    cases h
  have hTI : TI 0 (fun _ => none) (fun _ => 0) := by
    intro t c _ h
    cases h
  have hBV : BV sz (fun _ => 0, fun _ => 0, fun _ => 0, fun _ => 0, fun _ => 0, fun _ => 0, fun _ => 0, fun _ => 0) (fun _ _ => 0) := by
    intro b i hb hi hl
    rw [o6 b hb, Int32.lt_iff_toInt_lt, show ((-1 : Int32)).toInt = -1 from rfl] at hl
    have := nI_pos (n := i) (by omega)
    rw [Int32.lt_iff_toInt_lt, show ((0 : Int32)).toInt = 0 from rfl] at this
    omega
  have hIB : IB z u.1 sz (fun _ => 0, fun _ => 0, fun _ => 0, fun _ => 0, fun _ => 0, fun _ => 0, fun _ => 0, fun _ => 0) (fun _ _ => 0) := ⟨o7.keep (fun q a b => fr q (by omega)), ⟨_, _, r19, r20, fun b hb => ⟨(s19 b hb).trans (o6 b hb).symm, fun i hi => rfl⟩⟩, fun b hb => Or.inl (o6 b hb), hBV⟩
  have hMC : MC u.1 (z + 62) 0 (fun _ => 0) (fun _ => 0) (fun _ _ => 0) := ⟨_, _, _, r5, r6, r7, fun i hi => n0 hi⟩
  have hZA : ZA (fun q => if q < z ∨ z + 83 ≤ q then 0 else if z + 15 ≤ q ∧ q < z + 18 then 2 else 1) u.2.1 := by
    intro q hq
    dsimp only at hq
    rw [h2]
    by_cases e : q < z ∨ z + 83 ≤ q
    · rw [if_pos e] at hq
      exact absurd rfl hq
    · omega
  have hCS : CS z (z + 15) 0 (fun q => if q < z ∨ z + 83 ≤ q then 0 else if z + 15 ≤ q ∧ q < z + 18 then 2 else 1) (fun _ => 0) (fun _ => 0) (fun _ => []) (fun _ => 0) (fun _ => 0) (fun _ _ => 0) (fun _ => 0) u := ⟨(fr z (by omega)).trans o1, ⟨_, (fr _ (by omega)).trans o3, fun i hi => n0 hi⟩, fun i hi => n0 hi, hZA, Nat.zero_le _, ⟨hz1 z (by omega) (by omega) (by omega), hz1 _ (by omega) (by omega) (by omega)⟩, fun i hi => n0 hi⟩
  have hIR : IR z 0 0 (fun _ => 0) u := by
    refine ⟨?_, ?_⟩
    · show u.2.1 + 0 ≤ _
      omega
    · show u.2.2 + 4096 * 0 ≤ _
      omega
  exact ⟨z + 15, 0, 0, _, _, _, _, _, _, _, _, ⟨hCS, hM, hMC, fun q a b c => hz1 q a b c, ⟨hz2 _ (by omega) (by omega), hz2 _ (by omega) (by omega), hz2 _ (by omega) (by omega)⟩, by omega⟩, ⟨_, _, _, _, hIS⟩, ⟨_, _, hIK⟩, ⟨_, _, _, _, _, _, ⟨gp, (fr _ (by omega)).trans o4, o4b⟩, hPC, hPM, hPI⟩, ⟨_, _, _, hTC, hTM, hTI⟩, ⟨_, _, _, hIB⟩, hIR⟩
/-- both constructors: the law up to its loop -/
theorem i_start {z : Nat} {K : Nat → Nat → St Int32} {P : Int32 → WS → Prop} (h : ∀ u : WS, INV z 0 u → Hr (K z (z + 62)) u P) : Hr (bd (mk 7 (.inr (9, [.null, .null, .null, .null, .null, .null, .int 0]))) fun a1 => bd (F_X10_init a1) fun c2 => bd (mk 22 (.inr (10, [.null, .null, .null, .null, .int 0, .null, .null, .null, .int 0, .null, .null, .null, .null, .null, .null, .null, .null, .null, .null, .null, .null, .null]))) fun a3 => bd (F_X11_init a3) fun c4 => K a1 a3) (fun _ => none, z, 0) P := by
  refine hb_mk ?_
  dsimp only
  refine hb_c i_obj (fun _ t ht => ?_)
  obtain ⟨t1, t2⟩ := ht
  obtain ⟨w, p, s⟩ := t
  have e1 : p = z + 62 := congrArg Prod.fst t2
  have e2 : s = 0 + 7 + 1380 := congrArg Prod.snd t2
  subst e1
  subst e2
  refine hb_mk ?_
  dsimp only
  refine hb_c i_refer (fun _ u hu => ?_)
  obtain ⟨u1, u2, u3, u4⟩ := hu
  refine h u (i_first t1 u1 u2 u4 ?_ ?_)
  · exact congrArg Prod.fst u3
  · have e : u.2.2 = 0 + 7 + 1380 + 22 + 248140 := congrArg Prod.snd u3
    rw [e]
    omega
