/-! ===== the first word of a line: there is room for it, or fault 3 ===== -/
section SA3
variable {z n t i : Nat} {M N M' N' : mM} {tp : Nat → Nat}
theorem full_eq {cnt : Nat} (hc : cnt ≤ 16) (h : M 102 3 = nI cnt) : F_Rows_isFull 102 5 16 M = decide (cnt = 16) := by
  unfold F_Rows_isFull
  rw [h]
  apply decide_eq_decide.mpr
  rw [show nI cnt < nI 16 ↔ cnt < 16 from nI_lt' (by omega) (by omega)]
  omega
theorem cw_first (h : PZ tp n t i M N) {a b cnt : Nat} (ha : a < 100) (hb : b < 100) (hc : cnt ≤ 16) (hn : M 102 3 = nI cnt) :
    F_Reader_takeFirst (nI a) (nI b) M = if ((tkA tp n i).1 = 3 ∧ a ≤ (tkA tp n i).2.1 ∧ (tkA tp n i).2.1 ≤ b) ∧ cnt = 16 then F_Reader_fail (nI 3) M else F_Reader_takeWord (nI a) (nI b) (nI 0) M := by
  have hw := pz_isWord h ha hb
  unfold F_Reader_takeFirst
  rw [hw, ob1_ok, ob1_ok, full_eq hc hn]
  by_cases hd : (tkA tp n i).1 = 3 ∧ a ≤ (tkA tp n i).2.1 ∧ (tkA tp n i).2.1 ≤ b
  · rw [decide_eq_true hd, if_pos rfl]
    by_cases hf : cnt = 16
    · rw [decide_eq_true hf, ob1_ok, if_pos (decide_eq_true rfl), if_pos ⟨hd, hf⟩]
      cases F_Reader_fail (nI 3) M with
      | none => rfl
      | some p => rfl
    · rw [decide_eq_false hf, ob1_ok, if_neg (show ¬ decide (false = true) = true from by decide), if_neg (fun h' => hf h'.2)]
      cases F_Reader_takeWord (nI a) (nI b) (nI 0) M with
      | none => rfl
      | some p => rfl
  · rw [decide_eq_false hd, if_neg Bool.false_ne_true, ob1_ok, if_neg Bool.false_ne_true, if_neg (fun h' => hd h'.1)]
    cases F_Reader_takeWord (nI a) (nI b) (nI 0) M with
    | none => rfl
    | some p => rfl
end SA3
