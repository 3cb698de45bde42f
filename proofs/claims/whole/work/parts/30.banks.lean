/-! ===== BANKS, the class's: the object at o, its arrays at o + 1 .. o + 9 ===== -/
def B1 (h : Nat → Option PE) (o : Nat) (sz fb fc fs fi : Nat → Int32) (fl8 : Nat → Int64) (ff : Nat → UInt32) (fd : Nat → UInt64) (fz : Nat → Int32) : Prop := h o = some (ob 0 [.ref (o + 1), .ref (o + 2), .ref (o + 3), .ref (o + 4), .ref (o + 5), .ref (o + 6), .ref (o + 7), .ref (o + 8), .ref (o + 9)]) ∧ h (o + 1) = some (cI 8 sz) ∧ h (o + 2) = some (cT 1 64 fb) ∧ h (o + 3) = some (cT 2 64 fc) ∧ h (o + 4) = some (cT 3 64 fs) ∧ h (o + 5) = some (cI 64 fi) ∧ h (o + 6) = some (cL 64 fl8) ∧ h (o + 7) = some (cF 64 ff) ∧ h (o + 8) = some (cD 64 fd) ∧ h (o + 9) = some (cT 7 64 fz)
theorem q_isBank {β : Type} {x : Int32} {K : Int32 → St β} {ws : WS} {P : β → WS → Prop} (h1 : ∀ j, j < 8 → x = nI j → Hr (K 1) ws P) (h0 : (x < 0 ∨ nI 8 ≤ x) → Hr (K 0) ws P) : Hr (bd (F_X10_isBank x) K) ws P := by
  refine hr_bd ?_
  unfold F_X10_isBank
  rcases ix_cases x 8 (by decide) with h | ⟨j, hj, rfl, g1, g2⟩
  · refine hr_br (fun _ => hr_rt (h0 h)) (fun a => ?_)
    refine hr_br (fun _ => hr_rt (h0 h)) (fun b => ?_)
    rcases h with h | h
    · exact absurd h a
    · exact absurd h b
  · exact hr_f g1 (hr_f g2 (hr_rt (h1 j hj rfl)))
