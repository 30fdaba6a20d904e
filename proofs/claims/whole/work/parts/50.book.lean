/-! ===== the book, both ways ===== -/
section S50
variable {z : Nat} {M M2 : mM} {p : Nat → Nat} {W : Wd} {c : Nat}
theorem b_book (hC : CW false 1 M p W) (hR : RM M2 W) (hf : wf c W) (i what : Int32) : ∃ r, F_Rec_book i what M = some r ∧ F_Mod_book i what M2 = some r := by
  have h150 := wf_150 hf
  have hB := CW_B hC
  have h63 : M 6 3 = nI (wb W) := hB.1
  have h2 : M2 313 2 = nI (wb W) := RM_b hR
  unfold F_Rec_book F_Mod_book
  rw [h63, ra_ok (by omega) (by omega), ob1_ok, h2, ob1_ok, isIn_eq, isIn_eq]
  by_cases hi : F_Rec_within i (nI 0) (nI (wb W) - nI 1) = true
  · by_cases hw : F_Rec_within what (nI 0) (nI 3) = true
    · have hb1 : 1 ≤ wb W := by
        apply Classical.byContradiction
        intro h
        have e : wb W = 0 := by omega
        have h' := of_decide_eq_true hi
        rw [e] at h'
        have h1 := h'.1
        have h2' := h'.2
        rw [Int32.lt_iff_toInt_lt, show (nI 0).toInt = 0 from rfl] at h1
        rw [Int32.lt_iff_toInt_lt, show (nI 0 - nI 1).toInt = -1 from by decide] at h2'
        omega
      rw [nsb hb1] at hi
      obtain ⟨k, k1, k2, rfl⟩ := rng_n (by omega) (by omega) (of_decide_eq_true hi)
      obtain ⟨q, q1, q2, rfl⟩ := rng_n (by omega) (by omega) (of_decide_eq_true hw)
      rw [nsb hb1, if_neg (fun h => h.elim (fun g => g hi) (fun g => g hw)), if_pos hi, decide_eq_true hw, ob1_ok, if_pos rfl, get_ok (r := 6) (wd := 4) (mo := 150) (n := wb W) (i := k) (k := q) h63 (by omega) (by omega) (by omega) (by omega) (by omega), ob1_ok, nmul, nadd, ra_ok (by omega) (by omega), ob1_ok, ob1_ok, RM_B hR (by omega) (by omega)]
      refine ⟨wB W k q, congrArg some ?_, rfl⟩
      rw [Nat.mul_comm k 4]
      exact hB.2 k q (by omega) (by omega)
    · refine ⟨-2, ?_, ?_⟩
      · rw [if_pos (Or.inr hw)]
      · rw [if_pos hi, decide_eq_false hw, ob1_ok, if_neg Bool.false_ne_true, ob1_ok]
  · refine ⟨-2, ?_, ?_⟩
    · rw [if_pos (Or.inl hi)]
    · rw [if_neg hi, ob1_ok, if_neg Bool.false_ne_true, ob1_ok]
end S50
