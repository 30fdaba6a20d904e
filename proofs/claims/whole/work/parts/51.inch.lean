/-! ===== an inch, both ways ===== -/
section S51
variable {z : Nat} {M M2 : mM} {p : Nat → Nat} {W : Wd} {c : Nat}
theorem within_inch (x : Int32) : F_Rec_within x (nI 0) (nI 59) = decide (¬ x < nI 0 ∧ x < nI 60) := by
  refine decide_eq_decide.mpr ?_
  constructor
  · intro h
    obtain ⟨N, n1, n2, rfl⟩ := rng_n (by omega) (by omega) h
    exact inch_k (by omega)
  · intro h
    rcases inch_c x with ⟨i, hi, rfl⟩ | hx
    · exact ⟨lF (by omega) (by omega), lF (by omega) (by omega)⟩
    · exact absurd h hx
theorem b_inch (hz : 1000 ≤ z) (hC : CW false 1 M p W) (hR : RM M2 W) (hf : wf c W) (x what : Int32) : ∃ r, F_Rec_inch x what M = some r ∧ F_Mod_inch z x what M2 = some r := by
  have h20 := wf_20 hf
  unfold F_Rec_inch F_Mod_inch F_Mod_isInch
  rw [within_inch]
  rcases inch_c x with ⟨i, hi, rfl⟩ | hx
  · have hin := decide_eq_true (inch_k hi)
    rw [if_neg (show ¬ ¬ decide (¬ nI i < nI 0 ∧ nI i < nI 60) = true from fun h => h hin), if_neg (show ¬ ¬ decide (¬ nI i < nI 0 ∧ nI i < nI 60) = true from fun h => h hin)]
    by_cases h0 : what = nI 0
    · rw [if_pos h0, if_pos h0, ra_ok (by omega) (by omega), ob1_ok, mm_glue hR hi, ob1_ok]
      exact ⟨wG W i, congrArg some (CW_G hC hi), rfl⟩
    · rw [if_neg h0, if_neg h0]
      by_cases h1 : what = nI 1
      · rw [if_pos h1, if_pos h1, ra_ok (by omega) (by omega), ob1_ok, nadd 70 i, ra_ok (by omega) (by omega), ob1_ok]
        exact ⟨wL W i, congrArg some (CW_L hC hi), congrArg some (RM_L hR hi)⟩
      · rw [if_neg h1, if_neg h1]
        by_cases h2 : what = nI 2
        · have e4 : M 4 i = numAt W i := CW_A hC hi
          rw [if_pos h2, if_neg (fun h => h h2), ra_ok (by omega) (by omega), ob1_ok, mm_isTaken (by omega) hR h20, ob1_ok, ob1_ok, e4]
          refine ⟨numAt W i, rfl, ?_⟩
          unfold numAt
          cases h : wAt W (nI i) with
          | none =>
            rw [if_neg (show ¬ (none : Option Nat).isSome = true from Bool.false_ne_true), ob1_ok, ob1_ok]
          | some t =>
            have ht := (wAt_some h).1
            rw [if_pos (show (some t).isSome = true from rfl), mm_stuckAt (by omega) hR h20, h, ob1_ok]
            show ob1 (ob1 (ob1 (ra M2 313 270 (F_Mod_thingAt (nI t))) _) _) _ = _
            rw [mm_thingAt, ra_ok (by omega) (by omega), ob1_ok, ob1_ok, ob1_ok, RM_T0 hR ht]
        · rw [if_neg h2, if_pos h2, ob1_ok]
          exact ⟨_, rfl, rfl⟩
  · have hin := decide_eq_false hx
    rw [if_pos (show ¬ decide (¬ x < nI 0 ∧ x < nI 60) = true from fun h => Bool.false_ne_true (hin.symm.trans h)), if_pos (show ¬ decide (¬ x < nI 0 ∧ x < nI 60) = true from fun h => Bool.false_ne_true (hin.symm.trans h))]
    exact ⟨_, rfl, rfl⟩
end S51
