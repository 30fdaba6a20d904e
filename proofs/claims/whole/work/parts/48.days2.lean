/-! ===== days, the whole of it ===== -/
def noDays (W : Wd) (n : Int32) : Bool := decide (¬ F_Rec_within n (nI 1) (nI 60) = true ∨ nI 9999 < wS W 0 + n)
def sDays (A : LA) (S F : Rw) (P : Ps) (W : Wd) (n : Int32) : Ps × Wd := if noDays W n = true then (P, W) else sDaysL A S F n.toNatClampNeg P W
def vDays (A : LA) (S F : Rw) (P : Ps) (W : Wd) (n : Int32) : Int32 := if noDays W n = true then -1 else wS (sDaysL A S F n.toNatClampNeg P W).2 6 - wS W 6
section S48
variable {z r : Nat} {M : mM} {p q : Nat → Nat} {W : Wd} {P : Ps} {c : Nat} {A : LA} {S F : Rw}
theorem i_zero (a b : Int32) : nI 0 + (b - a) = b - a := by rw [show nI 0 = (0 : Int32) from rfl]; grind
theorem cw_days (hz : 1000 ≤ z) (hS : okS S) (hF : okF F) (hA : CL 29 M A) (hC : CW false 1 M p W) (hP : PC M r P) (hf : wf c W) (hc : c + 1000 < 2147483648) (hRS : RwS 36 M S) (hRF : RwF 34 M F) (n : Int32) :
    ∃ M' p' r', F_Rec_days z n M = some (vDays A S F P W n, M') ∧ CW false 1 M' p' (sDays A S F P W n).2 ∧ PC M' r' (sDays A S F P W n).1 ∧ wf (c + 1000) (sDays A S F P W n).2 ∧ FrD M M' := by
  have h12 : M 1 12 = wS W 0 := CW_S hC (k := 0) (by omega) (by omega)
  have h10 : M 1 10 = wS W 6 := CW_S hC (k := 6) (by omega) (by omega)
  unfold F_Rec_days vDays sDays
  rw [h12]
  by_cases hb : noDays W n = true
  · have hb' := of_decide_eq_true hb
    rw [if_pos hb', if_pos hb, if_pos hb]
    exact ⟨M, p, r, rfl, hC, hP, wf_mono hf (by omega), fun _ _ _ _ _ => rfl, fun _ _ _ => rfl⟩
  · have hb' : ¬ (¬ F_Rec_within n (nI 1) (nI 60) = true ∨ nI 9999 < wS W 0 + n) := fun h => hb (decide_eq_true h)
    rw [if_neg hb', if_neg hb, if_neg hb]
    have hb1 : F_Rec_within n (nI 1) (nI 60) = true := Classical.byContradiction fun h => hb' (Or.inl h)
    obtain ⟨N, n1, n2, rfl⟩ := rng_n (by omega) (by omega) (of_decide_eq_true hb1)
    rw [nI_clamp (by omega)]
    obtain ⟨M', p', r', g1, g2, g3, g4, g5⟩ := l_cDays hz hS hF n2 N 0 z M p W P r c (by omega) (by omega) (by omega) hA hC hP hf hRS hRF
    have h10' : M' 1 10 = wS (sDaysL A S F N P W).2 6 := CW_S g2 (k := 6) (by omega) (by omega)
    exact ⟨M', p', r', by rw [g1, ob1_ok, h10, h10'], g2, g3, wf_mono g4 (by omega), g5⟩
theorem mm_days (hz : 2000 ≤ z) (hS : okS S) (hF : okF F) (hA : ML M A) (hR : RM M W) (hP : PM M P) (hp : preP P W) (hf : wf c W) (hc : c + 1000 < 2147483648) (hth : M 312 5 = bI false) (hDS : RMs M S) (hDF : RMf M F) (n : Int32) :
    ∃ M', F_Mod_days z n M = some (vDays A S F P W n, M') ∧ RM M' (sDays A S F P W n).2 ∧ PM M' (sDays A S F P W n).1 ∧ preP (sDays A S F P W n).1 (sDays A S F P W n).2 ∧ (∀ c', c' ∉ [312, 313, 314, 316, 330, 331] → M' c' = M c') ∧ ∀ j, j ≠ 3 → M' 312 j = M 312 j := by
  have h0 : M 313 0 = wS W 0 := RM_S hR (by omega) (by omega)
  unfold F_Mod_days vDays sDays
  rw [isIn_eq]
  have hcond : (if ¬ F_Rec_within n (nI 1) (nI 60) = true then some true else ob1 (ra M 313 270 (nI 0)) fun v18 => some (decide (nI 9999 < v18 + n))) = some (noDays W n) := by
    by_cases h : ¬ F_Rec_within n (nI 1) (nI 60) = true
    · rw [if_pos h, show noDays W n = true from decide_eq_true (Or.inl h)]
    · rw [if_neg h, ra_ok (by omega) (by omega), ob1_ok, h0]
      by_cases h2 : nI 9999 < wS W 0 + n
      · rw [decide_eq_true h2, show noDays W n = true from decide_eq_true (Or.inr h2)]
      · rw [decide_eq_false h2, show noDays W n = false from decide_eq_false (fun q => q.elim h h2)]
  rw [hcond, ob1_ok]
  by_cases hb : noDays W n = true
  · rw [if_pos hb, if_pos hb, if_pos hb]
    exact ⟨M, rfl, hR, hP, hp, fun _ _ => rfl, fun _ _ => rfl⟩
  · rw [if_neg hb, if_neg hb, if_neg hb]
    have hb1 : F_Rec_within n (nI 1) (nI 60) = true := Classical.byContradiction fun h => hb (decide_eq_true (Or.inl h))
    obtain ⟨N, n1, n2, rfl⟩ := rng_n (by omega) (by omega) (of_decide_eq_true hb1)
    rw [nI_clamp (by omega)]
    obtain ⟨M', g1, g2, g3, g4, g5, g6⟩ := l_mDays hz hS hF n2 N 0 z (nI 0) M W P c (by omega) (by omega) (by omega) hA hR hP hp hf hth hDS hDF
    exact ⟨M', by rw [g1, ob2_ok, i_zero], g2, g3, g4, g5, g6⟩
end S48
