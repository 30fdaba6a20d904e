/-! ===== the rest of a line of a sky: the class's tail by the deed's word ===== -/
section SA8
variable {z n t i : Nat} {M N M' N' : mM} {tp : Nat → Nat}
theorem cSky2_one {lo hi w : Nat} {b : Bool} (hl : M 108 1 = nI w) (hw : ((w = 14 ∨ w = 15) ∧ lo = 0 ∧ hi = 9) ∨ (w = 27 ∧ lo = 1 ∧ hi = 99)) (hT : F_Reader_takeNumber (nI lo) (nI hi) (nI 2) M = some (b, M')) : cSky2 M = if b = true then F_Reader_takeSign (nI 59) M' else some (false, M') := by
  have fin : ∀ X : Option (Bool × mM), X = some (b, M') → (ob2 X fun well_134 M135 => ob2 (if well_134 = true then ob2 (F_Reader_takeSign (nI 59) M135) fun v144 M145 => some (v144, M145) else some (false, M135)) fun x141 M143 => some (x141, M143)) = if b = true then F_Reader_takeSign (nI 59) M' else some (false, M') := by
    intro X hX
    rw [hX, ob2_ok]
    cases b with
    | false => rfl
    | true =>
      rw [if_pos rfl, if_pos rfl]
      cases F_Reader_takeSign (nI 59) M' with
      | none => rfl
      | some p => rfl
  unfold cSky2
  refine fin _ ?_
  rw [ra_ok (by omega) (by omega), ob1_ok, ob1_ok, hl]
  rcases hw with ⟨hw, rfl, rfl⟩ | ⟨rfl, rfl, rfl⟩
  · rcases hw with rfl | rfl
    · rw [show decide (nI 14 = nI 26) = false from by decide, if_neg Bool.false_ne_true, ob1_ok, ob1_ok, show decide (nI 14 = nI 27) = false from by decide, if_neg Bool.false_ne_true, hT, ob2_ok]
    · rw [show decide (nI 15 = nI 26) = false from by decide, if_neg Bool.false_ne_true, ob1_ok, ob1_ok, show decide (nI 15 = nI 27) = false from by decide, if_neg Bool.false_ne_true, hT, ob2_ok]
  · rw [show decide (nI 27 = nI 26) = false from by decide, if_neg Bool.false_ne_true, ob1_ok, ob1_ok, show decide (nI 27 = nI 27) = true from by decide, if_pos rfl, hT, ob2_ok]
theorem cSky2_two {b b2 : Bool} {M2 : mM} (hl : M 108 1 = nI 26) (hT : F_Reader_takeNumber (nI 0) (nI 59) (nI 2) M = some (b, M')) (hU : b = true → F_Reader_takeNumber (nI 0) (nI 99) (nI 3) M' = some (b2, M2)) (hV : b = false → b2 = false ∧ M2 = M') : cSky2 M = if b2 = true then F_Reader_takeSign (nI 59) M2 else some (false, M2) := by
  unfold cSky2
  rw [ra_ok (by omega) (by omega), ob1_ok, ob1_ok, hl, show decide (nI 26 = nI 26) = true from by decide, if_pos rfl, hT, ob2_ok, ob2_ok]
  cases b with
  | false =>
    obtain ⟨rfl, rfl⟩ := hV rfl
    rfl
  | true =>
    rw [if_pos rfl, hU rfl, ob2_ok, ob2_ok, ob2_ok]
    cases b2 with
    | false => rfl
    | true =>
      rw [if_pos rfl, if_pos rfl]
      cases F_Reader_takeSign (nI 59) M2 with
      | none => rfl
      | some p => rfl
end SA8
