/-! ===== the pure layer: what a computation comes to ===== -/
/-- from ws the computation c ends, and what it answers and leaves has P -/
def Hr {α : Type} (c : St α) (ws : WS) (P : α → WS → Prop) : Prop := ∃ a t, c.1 ws = some (a, t) ∧ P a t
theorem hr_mono {α : Type} {c : St α} {ws : WS} {P Q : α → WS → Prop} (h : Hr c ws P) (hq : ∀ a t, P a t → Q a t) : Hr c ws Q := by
  obtain ⟨a, t, h1, h2⟩ := h
  exact ⟨a, t, h1, hq a t h2⟩
theorem hr_rt {α : Type} {a : α} {ws : WS} {P : α → WS → Prop} (h : P a ws) : Hr (rt a) ws P := ⟨a, ws, rfl, h⟩
theorem hr_bd {α β : Type} {c : St α} {k : α → St β} {ws : WS} {P : β → WS → Prop} (h : Hr c ws (fun a t => Hr (k a) t P)) : Hr (bd c k) ws P := by
  obtain ⟨a, t, h1, b, u, h2, h3⟩ := h
  exact ⟨b, u, bd_of h1 h2, h3⟩
theorem hb_rt {α β : Type} {a : α} {k : α → St β} {ws : WS} {P : β → WS → Prop} (h : Hr (k a) ws P) : Hr (bd (rt a) k) ws P := h
theorem hr_br {α : Type} {q : Prop} [Decidable q] {x y : St α} {ws : WS} {P : α → WS → Prop} (h1 : q → Hr x ws P) (h2 : ¬ q → Hr y ws P) : Hr (br q x y) ws P := by
  by_cases h : q
  · rw [br_pos h]; exact h1 h
  · rw [br_neg h]; exact h2 h
theorem hr_t {α : Type} {q : Prop} [Decidable q] {x y : St α} {ws : WS} {P : α → WS → Prop} (hq : q) (h : Hr x ws P) : Hr (br q x y) ws P := by rw [br_pos hq]; exact h
theorem hr_f {α : Type} {q : Prop} [Decidable q] {x y : St α} {ws : WS} {P : α → WS → Prop} (hq : ¬ q) (h : Hr y ws P) : Hr (br q x y) ws P := by rw [br_neg hq]; exact h
theorem hb_ck {α : Type} {q : Prop} [Decidable q] {k : Unit → St α} {ws : WS} {P : α → WS → Prop} (hq : q) (h : Hr (k ()) ws P) : Hr (bd (ck q) k) ws P := by
  obtain ⟨a, t, h1, h2⟩ := h
  exact ⟨a, t, bd_of (ck_of hq) h1, h2⟩
/-- a call whose outcome is known -/
theorem hb_c {α β : Type} {c : St α} {k : α → St β} {ws : WS} {P : β → WS → Prop} {Q : α → WS → Prop} (hc : Hr c ws Q) (h : ∀ a t, Q a t → Hr (k a) t P) : Hr (bd c k) ws P := hr_bd (hr_mono hc h)
theorem m_ob_of {cs : List Nat} {a ci : Nat} {fs : List Value} {h : Nat → Option PE} (e : h a = some (.inr (ci, fs))) (hc : ci ∈ cs) : m_ob cs (some a) h = some fs := by
  unfold m_ob
  simp only [e]
  rw [if_pos hc]
theorem m_ar_of {t a : Nat} {x : vp_A} {h : Nat → Option PE} (e : h a = some (.inl (t, x))) : m_ar t (some a) h = some x := by
  unfold m_ar
  simp [e]
section HB
variable {β : Type} {ws : WS} {P : β → WS → Prop}
theorem hb_gI {cs : List Nat} {k a ci : Nat} {fs : List Value} {x : Int32} {K : Int32 → St β} (e : ws.1 a = some (.inr (ci, fs))) (hc : ci ∈ cs) (hv : fs[k]? = some (.int x)) (h : Hr (K x) ws P) : Hr (bd (gI cs k (some a)) K) ws P := by
  obtain ⟨b, t, h1, h2⟩ := h
  refine ⟨b, t, bd_of (rd_of ?_) h1, h2⟩
  rw [m_ob_of e hc]
  simp only [hv]
theorem hb_gL {cs : List Nat} {k a ci : Nat} {fs : List Value} {x : Int64} {K : Int64 → St β} (e : ws.1 a = some (.inr (ci, fs))) (hc : ci ∈ cs) (hv : fs[k]? = some (.long x)) (h : Hr (K x) ws P) : Hr (bd (gL cs k (some a)) K) ws P := by
  obtain ⟨b, t, h1, h2⟩ := h
  refine ⟨b, t, bd_of (rd_of ?_) h1, h2⟩
  rw [m_ob_of e hc]
  simp only [hv]
theorem hb_gD {cs : List Nat} {k a ci : Nat} {fs : List Value} {x : UInt64} {K : UInt64 → St β} (e : ws.1 a = some (.inr (ci, fs))) (hc : ci ∈ cs) (hv : fs[k]? = some (.double x)) (h : Hr (K x) ws P) : Hr (bd (gD cs k (some a)) K) ws P := by
  obtain ⟨b, t, h1, h2⟩ := h
  refine ⟨b, t, bd_of (rd_of ?_) h1, h2⟩
  rw [m_ob_of e hc]
  simp only [hv]
theorem hb_gR {cs : List Nat} {k a ci : Nat} {fs : List Value} {x : Option Nat} {K : Option Nat → St β} (e : ws.1 a = some (.inr (ci, fs))) (hc : ci ∈ cs) (hv : fs[k]? = some (va_rf x)) (h : Hr (K x) ws P) : Hr (bd (gR cs k (some a)) K) ws P := by
  obtain ⟨b, t, h1, h2⟩ := h
  refine ⟨b, t, bd_of (rd_of ?_) h1, h2⟩
  rw [m_ob_of e hc]
  cases x <;> simp only [hv, va_rf]
theorem hb_gRs {cs : List Nat} {k a ci x : Nat} {fs : List Value} {K : Option Nat → St β} (e : ws.1 a = some (.inr (ci, fs))) (hc : ci ∈ cs) (hv : fs[k]? = some (.ref x)) (h : Hr (K (some x)) ws P) : Hr (bd (gR cs k (some a)) K) ws P := hb_gR (x := some x) e hc hv h
theorem hb_gRn {cs : List Nat} {k a ci : Nat} {fs : List Value} {K : Option Nat → St β} (e : ws.1 a = some (.inr (ci, fs))) (hc : ci ∈ cs) (hv : fs[k]? = some .null) (h : Hr (K none) ws P) : Hr (bd (gR cs k (some a)) K) ws P := hb_gR (x := none) e hc hv h
theorem hb_pV {cs : List Nat} {k a ci : Nat} {fs : List Value} {v : Value} {K : Unit → St β} (e : ws.1 a = some (.inr (ci, fs))) (hc : ci ∈ cs) (hk : k < fs.length) (h : Hr (K ()) (m_up ws.1 a (.inr (ci, fs.set k v)), ws.2) P) : Hr (bd (pV cs k (some a) v) K) ws P := by
  obtain ⟨b, t, h1, h2⟩ := h
  refine ⟨b, t, bd_of (wr_of e ?_) h1, h2⟩
  simp only
  rw [if_pos ⟨hc, hk⟩]
theorem hb_aI {t a n : Nat} {f : Nat → Int32} {i : Int32} {K : Int32 → St β} (e : ws.1 a = some (.inl (t, (n, .inl f)))) (hi : ¬ (i < 0 ∨ n ≤ i.toNatClampNeg)) (h : Hr (K (f i.toNatClampNeg)) ws P) : Hr (bd (aI t (some a) i) K) ws P := by
  obtain ⟨b, u, h1, h2⟩ := h
  refine ⟨b, u, bd_of (rd_of ?_) h1, h2⟩
  rw [m_ar_of e]
  simp only
  rw [if_neg hi]
theorem hb_aL {a n : Nat} {f : Nat → Int64} {i : Int32} {K : Int64 → St β} (e : ws.1 a = some (.inl (4, (n, .inr (.inl f))))) (hi : ¬ (i < 0 ∨ n ≤ i.toNatClampNeg)) (h : Hr (K (f i.toNatClampNeg)) ws P) : Hr (bd (aL (some a) i) K) ws P := by
  obtain ⟨b, u, h1, h2⟩ := h
  refine ⟨b, u, bd_of (rd_of ?_) h1, h2⟩
  rw [m_ar_of e]
  simp only
  rw [if_neg hi]
theorem hb_aF {a n : Nat} {f : Nat → UInt32} {i : Int32} {K : UInt32 → St β} (e : ws.1 a = some (.inl (5, (n, .inr (.inr (.inl f)))))) (hi : ¬ (i < 0 ∨ n ≤ i.toNatClampNeg)) (h : Hr (K (f i.toNatClampNeg)) ws P) : Hr (bd (aF (some a) i) K) ws P := by
  obtain ⟨b, u, h1, h2⟩ := h
  refine ⟨b, u, bd_of (rd_of ?_) h1, h2⟩
  rw [m_ar_of e]
  simp only
  rw [if_neg hi]
theorem hb_aD {a n : Nat} {f : Nat → UInt64} {i : Int32} {K : UInt64 → St β} (e : ws.1 a = some (.inl (6, (n, .inr (.inr (.inr (.inl f))))))) (hi : ¬ (i < 0 ∨ n ≤ i.toNatClampNeg)) (h : Hr (K (f i.toNatClampNeg)) ws P) : Hr (bd (aD (some a) i) K) ws P := by
  obtain ⟨b, u, h1, h2⟩ := h
  refine ⟨b, u, bd_of (rd_of ?_) h1, h2⟩
  rw [m_ar_of e]
  simp only
  rw [if_neg hi]
theorem hb_aR {t a n : Nat} {f : Nat → Option Nat} {i : Int32} {K : Option Nat → St β} (e : ws.1 a = some (.inl (t, (n, .inr (.inr (.inr (.inr f))))))) (hi : ¬ (i < 0 ∨ n ≤ i.toNatClampNeg)) (h : Hr (K (f i.toNatClampNeg)) ws P) : Hr (bd (aR t (some a) i) K) ws P := by
  obtain ⟨b, u, h1, h2⟩ := h
  refine ⟨b, u, bd_of (rd_of ?_) h1, h2⟩
  rw [m_ar_of e]
  simp only
  rw [if_neg hi]
theorem hb_aN {t a : Nat} {x : vp_A} {K : Int32 → St β} (e : ws.1 a = some (.inl (t, x))) (h : Hr (K (Int32.ofNat x.1)) ws P) : Hr (bd (aN t (some a)) K) ws P := by
  obtain ⟨b, u, h1, h2⟩ := h
  refine ⟨b, u, bd_of (rd_of ?_) h1, h2⟩
  rw [m_ar_of e]
theorem hb_as {t a : Nat} {x y : vp_A} {i : Int32} {g : Nat → vp_A → Option vp_A} {K : Unit → St β} (e : ws.1 a = some (.inl (t, x))) (hi : ¬ (i < 0 ∨ x.1 ≤ i.toNatClampNeg)) (hg : g i.toNatClampNeg x = some y) (h : Hr (K ()) (m_up ws.1 a (.inl (t, y)), ws.2) P) : Hr (bd (m_as t (some a) i g) K) ws P := by
  obtain ⟨b, u, h1, h2⟩ := h
  refine ⟨b, u, bd_of (wr_of e ?_) h1, h2⟩
  simp only
  rw [if_pos ⟨trivial, hi⟩, hg]
theorem hb_sI {t a n : Nat} {f : Nat → Int32} {i v : Int32} {K : Unit → St β} (e : ws.1 a = some (.inl (t, (n, .inl f)))) (hi : ¬ (i < 0 ∨ n ≤ i.toNatClampNeg)) (h : Hr (K ()) (m_up ws.1 a (.inl (t, (n, .inl (upd f i.toNatClampNeg v)))), ws.2) P) : Hr (bd (sI t (some a) i v) K) ws P := hb_as e hi rfl h
theorem hb_sL {a n : Nat} {f : Nat → Int64} {i : Int32} {v : Int64} {K : Unit → St β} (e : ws.1 a = some (.inl (4, (n, .inr (.inl f))))) (hi : ¬ (i < 0 ∨ n ≤ i.toNatClampNeg)) (h : Hr (K ()) (m_up ws.1 a (.inl (4, (n, .inr (.inl (vp_updL f i.toNatClampNeg v))))), ws.2) P) : Hr (bd (sL (some a) i v) K) ws P := hb_as e hi rfl h
theorem hb_sF {a n : Nat} {f : Nat → UInt32} {i : Int32} {v : UInt32} {K : Unit → St β} (e : ws.1 a = some (.inl (5, (n, .inr (.inr (.inl f)))))) (hi : ¬ (i < 0 ∨ n ≤ i.toNatClampNeg)) (h : Hr (K ()) (m_up ws.1 a (.inl (5, (n, .inr (.inr (.inl (vf_upd f i.toNatClampNeg v)))))), ws.2) P) : Hr (bd (sF (some a) i v) K) ws P := hb_as e hi rfl h
theorem hb_sD {a n : Nat} {f : Nat → UInt64} {i : Int32} {v : UInt64} {K : Unit → St β} (e : ws.1 a = some (.inl (6, (n, .inr (.inr (.inr (.inl f))))))) (hi : ¬ (i < 0 ∨ n ≤ i.toNatClampNeg)) (h : Hr (K ()) (m_up ws.1 a (.inl (6, (n, .inr (.inr (.inr (.inl (vf_upd f i.toNatClampNeg v))))))), ws.2) P) : Hr (bd (sD (some a) i v) K) ws P := hb_as e hi rfl h
theorem hb_sR {t a n : Nat} {f : Nat → Option Nat} {i : Int32} {v : Option Nat} {K : Unit → St β} (e : ws.1 a = some (.inl (t, (n, .inr (.inr (.inr (.inr f))))))) (hi : ¬ (i < 0 ∨ n ≤ i.toNatClampNeg)) (h : Hr (K ()) (m_up ws.1 a (.inl (t, (n, .inr (.inr (.inr (.inr (va_up f i.toNatClampNeg v))))))), ws.2) P) : Hr (bd (sR t (some a) i v) K) ws P := hb_as e hi rfl h
theorem hb_dr {cs : List Nat} {a ci : Nat} {fs : List Value} {K : Nat × Nat → St β} (e : ws.1 a = some (.inr (ci, fs))) (hc : ci ∈ cs) (h : Hr (K (a, ci)) ws P) : Hr (bd (dr cs (some a)) K) ws P := by
  obtain ⟨b, u, h1, h2⟩ := h
  refine ⟨b, u, bd_of (rd_of ?_) h1, h2⟩
  simp only [e]
  rw [if_pos hc]
theorem hb_mk {n : Nat} {e : PE} {K : Nat → St β} (h : Hr (K ws.2.1) (m_up ws.1 ws.2.1 e, ws.2.1 + 1, ws.2.2 + n) P) : Hr (bd (mk n e) K) ws P := by
  obtain ⟨b, u, h1, h2⟩ := h
  exact ⟨b, u, bd_of rfl h1, h2⟩
theorem hb_nA {t : Nat} {n : Int32} {K : Nat → St β} (hn : ¬ (n < 0 ∨ 1000000 < n.toNatClampNeg)) (h : Hr (K ws.2.1) (m_up ws.1 ws.2.1 (.inl (t, (n.toNatClampNeg, m_dft t))), ws.2.1 + 1, ws.2.2 + n.toNatClampNeg) P) : Hr (bd (nA t n) K) ws P := by
  unfold nA
  rw [if_neg hn]
  exact hb_mk h
theorem hb_sX {xs : Nat → Int32} {L : Nat} {i : Int32} {K : Int32 → St β} (hi : ¬ (i < 0 ∨ L ≤ i.toNatClampNeg)) (h : Hr (K (xs i.toNatClampNeg)) ws P) : Hr (bd (sX xs L i) K) ws P := by
  unfold sX
  rw [if_neg hi]
  exact h
end HB
