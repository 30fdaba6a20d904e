theorem inR_60 {v : Int32} (h1 : ¬ v < 0) (h2 : v < nI 60) : inR v 0 (nI 59) = true := by
  simp only [inR, h1, decide_false, Bool.not_false, Bool.true_and, Bool.not_eq_true', decide_eq_false_iff_not]
  rw [Int32.lt_iff_toInt_lt, nI_toInt (by decide)]
  rw [Int32.lt_iff_toInt_lt, nI_toInt (by decide)] at h2
  omega
theorem inR_60a {v : Int32} (h : v < 0) : inR v 0 (nI 59) = false := by simp [inR, h]
theorem inR_60b {v : Int32} (h : ¬ v < nI 60) : inR v 0 (nI 59) = false := by
  have : nI 59 < v := by
    rw [Int32.lt_iff_toInt_lt, nI_toInt (by decide)] at h ⊢
    omega
  simp [inR, this]
theorem fi_lt (p : Nat → Bool) : ∀ n t, t + n < 2147483648 → ∀ k, fi p n t = some k → t ≤ k ∧ k < t + n ∧ p k = true := by
  intro n
  induction n with
  | zero => intro t _ k h; cases h
  | succ n ih =>
    intro t ht k h
    unfold fi at h
    split at h
    · cases h; exact ⟨Nat.le_refl _, by omega, by assumption⟩
    · have := ih (t + 1) (by omega) k h
      exact ⟨by omega, by omega, this.2.2⟩
theorem nI_ne_m1 {k : Nat} (h : k < 2147483648) : nI k ≠ -1 := by
  intro e
  have h1 := nI_toInt h
  rw [e] at h1
  have h2 : (-1 : Int32).toInt = -1 := rfl
  omega
theorem oI_none {r : Option Nat} (hk : ∀ k, r = some k → k < 2147483648) (h : oI r = -1) : r.isSome = false := by
  cases r with
  | none => rfl
  | some k => exact absurd h (nI_ne_m1 (hk k rfl))
theorem oI_some {r : Option Nat} (h : ¬ oI r = -1) : r.isSome = true := by
  cases r with
  | none => exact absurd rfl h
  | some k => rfl
theorem wAt_lt {w : Wd} {i : Int32} {k : Nat} (hl : wN w ≤ 20) (h : wAt w i = some k) : k < wN w ∧ wT w k 4 = i := by
  have := fi_lt _ _ _ (by omega) k h
  exact ⟨by omega, by simpa using this.2.2⟩
theorem wOf_lt {w : Wd} {i : Int32} {k : Nat} (hl : wN w ≤ 20) (h : wOf w i = some k) : k < wN w ∧ wT w k 0 = i := by
  have := fi_lt _ _ _ (by omega) k h
  exact ⟨by omega, by simpa using this.2.2⟩
/-! ===== the model: its small methods ===== -/
section S15
variable {X : mXs} {d : Nat} {M : mM} {w : Wd} {Q : Option Value → mH → Prop}
theorem c_Mod_within {v a b : Int32} (h : Q (some (.int (clp v a b))) (lay M)) : Sp X d f_Mod_within [.ref 312, .int v, .int a, .int b] (lay M) Q := by
  refine Sp_of rfl rfl (Nat.le_of_ble_eq_true rfl) ?_
  refine wp_iload_n d_Mod_within_0 rfl rfl ?_
  refine wp_iload_n d_Mod_within_1 rfl rfl ?_
  refine wq_icmp_ge 9 d_Mod_within_2 rfl (fun h2 => ?_) (fun h2 => ?_)
  · refine wp_iload_n d_Mod_within_9 rfl rfl ?_
    refine wp_iload_n d_Mod_within_10 rfl rfl ?_
    refine wq_icmp_le 18 d_Mod_within_11 rfl (fun h11 => ?_) (fun h11 => ?_)
    · refine wp_iload_n d_Mod_within_18 rfl rfl ?_
      exact wp_iret d_Mod_within_19 rfl rfl rfl (qE (by simp only [clp, *, ↓reduceIte, not_false_eq_true]) h)
    · refine wp_iload_n d_Mod_within_14 rfl rfl ?_
      refine wp_goto 19 d_Mod_within_15 rfl ?_
      exact wp_iret d_Mod_within_19 rfl rfl rfl (qE (by simp only [clp, *, ↓reduceIte, not_false_eq_true]) h)
  · refine wp_iload_n d_Mod_within_5 rfl rfl ?_
    refine wp_goto 19 d_Mod_within_6 rfl ?_
    exact wp_iret d_Mod_within_19 rfl rfl rfl (qE (by simp only [clp, *, ↓reduceIte, not_false_eq_true]) h)
theorem c_Mod_greater {a b : Int32} (h : Q (some (.int (iMax a b))) (lay M)) : Sp X d f_Mod_greater [.ref 312, .int a, .int b] (lay M) Q := by
  refine Sp_of rfl rfl (Nat.le_of_ble_eq_true rfl) ?_
  refine wp_iload_n d_Mod_greater_0 rfl rfl ?_
  refine wp_iload_n d_Mod_greater_1 rfl rfl ?_
  refine wq_icmp_le 9 d_Mod_greater_2 rfl (fun h2 => ?_) (fun h2 => ?_)
  · refine wp_iload_n d_Mod_greater_9 rfl rfl ?_
    exact wp_iret d_Mod_greater_10 rfl rfl rfl (qE (by simp only [iMax, *, ↓reduceIte, not_false_eq_true]) h)
  · refine wp_iload_n d_Mod_greater_5 rfl rfl ?_
    refine wp_goto 10 d_Mod_greater_6 rfl ?_
    exact wp_iret d_Mod_greater_10 rfl rfl rfl (qE (by simp only [iMax, *, ↓reduceIte, not_false_eq_true]) h)
theorem c_Mod_lesser {a b : Int32} (h : Q (some (.int (iMin a b))) (lay M)) : Sp X d f_Mod_lesser [.ref 312, .int a, .int b] (lay M) Q := by
  refine Sp_of rfl rfl (Nat.le_of_ble_eq_true rfl) ?_
  refine wp_iload_n d_Mod_lesser_0 rfl rfl ?_
  refine wp_iload_n d_Mod_lesser_1 rfl rfl ?_
  refine wq_icmp_ge 9 d_Mod_lesser_2 rfl (fun h2 => ?_) (fun h2 => ?_)
  · refine wp_iload_n d_Mod_lesser_9 rfl rfl ?_
    exact wp_iret d_Mod_lesser_10 rfl rfl rfl (qE (by simp only [iMin, *, ↓reduceIte, not_false_eq_true]) h)
  · refine wp_iload_n d_Mod_lesser_5 rfl rfl ?_
    refine wp_goto 10 d_Mod_lesser_6 rfl ?_
    exact wp_iret d_Mod_lesser_10 rfl rfl rfl (qE (by simp only [iMin, *, ↓reduceIte, not_false_eq_true]) h)
theorem c_Mod_apart {a b : Int32} (h : Q (some (.int (iApart a b))) (lay M)) : Sp X d f_Mod_apart [.ref 312, .int a, .int b] (lay M) Q := by
  refine Sp_of rfl rfl (Nat.le_of_ble_eq_true rfl) ?_
  refine wp_iload_n d_Mod_apart_0 rfl rfl ?_
  refine wp_iload_n d_Mod_apart_1 rfl rfl ?_
  refine wq_icmp_le 11 d_Mod_apart_2 rfl (fun h2 => ?_) (fun h2 => ?_)
  · refine wp_iload_n d_Mod_apart_11 rfl rfl ?_
    refine wp_iload_n d_Mod_apart_12 rfl rfl ?_
    refine wp_isub d_Mod_apart_13 ?_
    exact wp_iret d_Mod_apart_14 rfl rfl rfl (qE (by simp only [iApart, *, ↓reduceIte, not_false_eq_true]) h)
  · refine wp_iload_n d_Mod_apart_5 rfl rfl ?_
    refine wp_iload_n d_Mod_apart_6 rfl rfl ?_
    refine wp_isub d_Mod_apart_7 ?_
    refine wp_goto 14 d_Mod_apart_8 rfl ?_
    exact wp_iret d_Mod_apart_14 rfl rfl rfl (qE (by simp only [iApart, *, ↓reduceIte, not_false_eq_true]) h)
theorem c_Mod_added {a b : Int32} (h : Q (some (.int (iAdded a b))) (lay M)) : Sp X d f_Mod_added [.ref 312, .int a, .int b] (lay M) Q := by
  refine Sp_of rfl rfl (Nat.le_of_ble_eq_true rfl) ?_
  refine wp_iload_n d_Mod_added_0 rfl rfl ?_
  refine wp_ldc d_Mod_added_1 lk_Mod_110 ?_
  refine wp_iload_n d_Mod_added_3 rfl rfl ?_
  refine wp_isub d_Mod_added_4 ?_
  refine wq_icmp_lt 17 d_Mod_added_5 rfl (fun h5 => ?_) (fun h5 => ?_)
  · refine wp_iload_n d_Mod_added_17 rfl rfl ?_
    refine wp_iload_n d_Mod_added_18 rfl rfl ?_
    refine wp_iadd d_Mod_added_19 ?_
    exact wp_iret d_Mod_added_20 rfl rfl rfl (qE (by simp only [iAdded, *, ↓reduceIte, not_false_eq_true]) h)
  · refine wp_iload_n d_Mod_added_8 rfl rfl ?_
    refine wp_ldc d_Mod_added_9 lk_Mod_110 ?_
    refine wp_iload_n d_Mod_added_11 rfl rfl ?_
    refine wp_isub d_Mod_added_12 ?_
    refine wp_isub d_Mod_added_13 ?_
    refine wp_goto 20 d_Mod_added_14 rfl ?_
    exact wp_iret d_Mod_added_20 rfl rfl rfl (qE (by simp only [iAdded, *, ↓reduceIte, not_false_eq_true]) h)
theorem c_Mod_has {s k : Int32} (h : Q (some (.int (bI (iHas s k)))) (lay M)) : Sp X d f_Mod_has [.ref 312, .int s, .int k] (lay M) Q := by
  refine Sp_of rfl rfl (Nat.le_of_ble_eq_true rfl) ?_
  refine wp_iload_n d_Mod_has_0 rfl rfl ?_
  refine wp_iload_n d_Mod_has_1 rfl rfl ?_
  refine wp_ishr d_Mod_has_2 ?_
  refine wp_iconst d_Mod_has_3 (v := nI 1) rfl ?_
  refine wp_iand d_Mod_has_4 ?_
  refine wp_iconst d_Mod_has_5 (v := nI 1) rfl ?_
  refine wq_icmp_ne 13 d_Mod_has_6 rfl (fun h6 => ?_) (fun h6 => ?_)
  · refine wp_iconst d_Mod_has_13 (v := nI 0) rfl ?_
    exact wp_iret d_Mod_has_14 rfl rfl rfl (qF (by simp_all [iHas]) h)
  · refine wp_iconst d_Mod_has_9 (v := nI 1) rfl ?_
    refine wp_goto 14 d_Mod_has_10 rfl ?_
    exact wp_iret d_Mod_has_14 rfl rfl rfl (qT (by simp_all [iHas]) h)
theorem c_Mod_isInch {v : Int32} (h : Q (some (.int (bI (inR v 0 (nI 59))))) (lay M)) : Sp X d f_Mod_isInch [.ref 312, .int v] (lay M) Q := by
  refine Sp_of rfl rfl (Nat.le_of_ble_eq_true rfl) ?_
  refine wp_iload_n d_Mod_isInch_0 rfl rfl ?_
  refine wq_if_lt 14 d_Mod_isInch_1 rfl (fun h1 => ?_) (fun h1 => ?_)
  · refine wp_iconst d_Mod_isInch_14 (v := nI 0) rfl ?_
    exact wp_iret d_Mod_isInch_15 rfl rfl rfl (qF (by first | (exact inR_60 h1 h7) | (exact inR_60a h1) | (exact inR_60b h7)) h)
  · refine wp_iload_n d_Mod_isInch_4 rfl rfl ?_
    refine wp_bipush d_Mod_isInch_5 (v := nI 60) rfl ?_
    refine wq_icmp_ge 14 d_Mod_isInch_7 rfl (fun h7 => ?_) (fun h7 => ?_)
    · refine wp_iconst d_Mod_isInch_14 (v := nI 0) rfl ?_
      exact wp_iret d_Mod_isInch_15 rfl rfl rfl (qF (by first | (exact inR_60 h1 h7) | (exact inR_60a h1) | (exact inR_60b h7)) h)
    · refine wp_iconst d_Mod_isInch_10 (v := nI 1) rfl ?_
      refine wp_goto 15 d_Mod_isInch_11 rfl ?_
      exact wp_iret d_Mod_isInch_15 rfl rfl rfl (qT (by first | (exact inR_60 h1 h7) | (exact inR_60a h1) | (exact inR_60b h7)) h)
theorem c_Mod_glue {i : Nat} (hR : RM M w) (hi : i < 60) (h : Q (some (.int (wG w i))) (lay M)) : Sp X d f_Mod_glue [.ref 312, .int (nI i)] (lay M) Q := by
  refine Sp_of rfl rfl (Nat.le_of_ble_eq_true rfl) ?_
  refine wp_aload_n d_Mod_glue_0 rfl rfl ?_
  refine wl_getR d_Mod_glue_1 lf_Mod_7 sh_312 rfl ?_
  refine wp_bipush d_Mod_glue_4 (v := nI 10) rfl ?_
  refine wp_iload_n d_Mod_glue_6 rfl rfl ?_
  refine wn_iadd d_Mod_glue_7 ?_
  refine wl_aldn d_Mod_glue_8 sh_313 (by omega) (RM_G hR hi) ?_
  refine wp_bipush d_Mod_glue_9 (v := nI 50) rfl ?_
  refine wp_iadd d_Mod_glue_11 ?_
  exact wp_iret d_Mod_glue_12 rfl rfl rfl (qE (by simp) h)
theorem l_Mod_stuckAt {j : Int32} (hR : RM M w) (hl : wN w ≤ 20) : ∀ (n t : Nat), t + n = wN w → Q (some (.int (oI (fi (fun t => wT w t 4 == j) n t)))) (lay M) → wp X (d + 1) f_Mod_stuckAt (0, 0) 2 [.ref 312, .int j, .int (nI t)] [] (lay M) Q := by
  intro n
  induction n with
  | zero =>
    intro t ht h
    refine wp_iload_n d_Mod_stuckAt_2 rfl rfl ?_
    refine wp_aload_n d_Mod_stuckAt_3 rfl rfl ?_
    refine wl_getR d_Mod_stuckAt_4 lf_Mod_7 sh_312 rfl ?_
    refine wp_bipush d_Mod_stuckAt_7 (v := nI 8) rfl ?_
    refine wl_aldn d_Mod_stuckAt_9 sh_313 (by omega) (RM_N hR) ?_
    refine wn_icmp_ge 37 d_Mod_stuckAt_10 rfl (by omega) (by omega) (fun h10 => ?_) (fun h10 => ?_)
    · refine wp_iconst d_Mod_stuckAt_37 (v := -1) rfl ?_
      exact wp_iret d_Mod_stuckAt_38 rfl rfl rfl h
    · exact absurd h10 (by omega)
  | succ n ih =>
    intro t ht h
    refine wp_iload_n d_Mod_stuckAt_2 rfl rfl ?_
    refine wp_aload_n d_Mod_stuckAt_3 rfl rfl ?_
    refine wl_getR d_Mod_stuckAt_4 lf_Mod_7 sh_312 rfl ?_
    refine wp_bipush d_Mod_stuckAt_7 (v := nI 8) rfl ?_
    refine wl_aldn d_Mod_stuckAt_9 sh_313 (by omega) (RM_N hR) ?_
    refine wn_icmp_ge 37 d_Mod_stuckAt_10 rfl (by omega) (by omega) (fun h10 => ?_) (fun h10 => ?_)
    · exact absurd h10 (by omega)
    · refine wp_aload_n d_Mod_stuckAt_13 rfl rfl ?_
      refine wl_getR d_Mod_stuckAt_14 lf_Mod_7 sh_312 rfl ?_
      refine wp_aload_n d_Mod_stuckAt_17 rfl rfl ?_
      refine wp_iload_n d_Mod_stuckAt_18 rfl rfl ?_
      refine wl_callV1 d_Mod_stuckAt_19 lc_Mod_thingAt lv_Mod_124 rfl sh_312 rfl rfl ⟨rfl, rfl⟩ ⟨by decide, by decide⟩ ?_
      refine c_Mod_thingAt ?_
      refine wp_iconst d_Mod_stuckAt_22 (v := nI 4) rfl ?_
      refine wn_iadd d_Mod_stuckAt_23 ?_
      refine wl_aldn d_Mod_stuckAt_24 sh_313 (by omega) (RM_T hR h10 (by decide)) ?_
      refine wp_iload_n d_Mod_stuckAt_25 rfl rfl ?_
      refine wq_icmp_ne 31 d_Mod_stuckAt_26 rfl (fun h26 => ?_) (fun h26 => ?_)
      · refine wn_iinc d_Mod_stuckAt_31 rfl ?_
        refine wp_goto 2 d_Mod_stuckAt_34 rfl ?_
        exact ih (t + 1) (by omega) (by simpa [fi, h26] using h)
      · refine wp_iload_n d_Mod_stuckAt_29 rfl rfl ?_
        exact wp_iret d_Mod_stuckAt_30 rfl rfl rfl (by simpa [fi, h26, oI] using h)
theorem c_Mod_stuckAt {j : Int32} (hR : RM M w) (hl : wN w ≤ 20) (h : Q (some (.int (oI (wAt w j)))) (lay M)) : Sp X (d + 1) f_Mod_stuckAt [.ref 312, .int j] (lay M) Q := by
  refine Sp_of rfl rfl (Nat.le_of_ble_eq_true rfl) ?_
  refine wp_iconst d_Mod_stuckAt_0 (v := nI 0) rfl ?_
  refine wp_istore_n d_Mod_stuckAt_1 rfl (by decide) ?_
  exact l_Mod_stuckAt hR hl (wN w) 0 (by omega) h
theorem c_Mod_isTaken {j : Int32} (hR : RM M w) (hl : wN w ≤ 20) (h : Q (some (.int (bI (wAt w j).isSome))) (lay M)) : Sp X (d + 2) f_Mod_isTaken [.ref 312, .int j] (lay M) Q := by
  refine Sp_of rfl rfl (Nat.le_of_ble_eq_true rfl) ?_
  refine wp_aload_n d_Mod_isTaken_0 rfl rfl ?_
  refine wp_iload_n d_Mod_isTaken_1 rfl rfl ?_
  refine wl_callV1 d_Mod_isTaken_2 lc_Mod_stuckAt lv_Mod_128 rfl sh_312 rfl rfl ⟨rfl, rfl⟩ ⟨by decide, by decide⟩ ?_
  refine c_Mod_stuckAt hR hl ?_
  refine wp_iconst d_Mod_isTaken_5 (v := -1) rfl ?_
  refine wq_icmp_eq 13 d_Mod_isTaken_6 rfl (fun h6 => ?_) (fun h6 => ?_)
  · refine wp_iconst d_Mod_isTaken_13 (v := nI 0) rfl ?_
    exact wp_iret d_Mod_isTaken_14 rfl rfl rfl (qF (by first | exact oI_some ‹_› | exact oI_none (fun k hk => by have := wAt_lt hl hk; omega) ‹_›) h)
  · refine wp_iconst d_Mod_isTaken_9 (v := nI 1) rfl ?_
    refine wp_goto 14 d_Mod_isTaken_10 rfl ?_
    exact wp_iret d_Mod_isTaken_14 rfl rfl rfl (qT (by first | exact oI_some ‹_› | exact oI_none (fun k hk => by have := wAt_lt hl hk; omega) ‹_›) h)
theorem l_Mod_legsOfAll  (hR : RM M w) : ∀ (n t : Nat), ∀ a : Int32, t + n = 60 → Q (some (.int (sm (wL w) n t a))) (lay M) → wp X d f_Mod_legsOfAll (0, 0) 4 [.ref 312, .int a, .int (nI t)] [] (lay M) Q := by
  intro n
  induction n with
  | zero =>
    intro t a ht h
    refine wp_iload_n d_Mod_legsOfAll_4 rfl rfl ?_
    refine wp_bipush d_Mod_legsOfAll_5 (v := nI 60) rfl ?_
    refine wn_icmp_ge 28 d_Mod_legsOfAll_7 rfl (by omega) (by omega) (fun h7 => ?_) (fun h7 => ?_)
    · refine wp_iload_n d_Mod_legsOfAll_28 rfl rfl ?_
      exact wp_iret d_Mod_legsOfAll_29 rfl rfl rfl h
    · exact absurd h7 (by omega)
  | succ n ih =>
    intro t a ht h
    refine wp_iload_n d_Mod_legsOfAll_4 rfl rfl ?_
    refine wp_bipush d_Mod_legsOfAll_5 (v := nI 60) rfl ?_
    refine wn_icmp_ge 28 d_Mod_legsOfAll_7 rfl (by omega) (by omega) (fun h7 => ?_) (fun h7 => ?_)
    · exact absurd h7 (by omega)
    · refine wp_iload_n d_Mod_legsOfAll_10 rfl rfl ?_
      refine wp_aload_n d_Mod_legsOfAll_11 rfl rfl ?_
      refine wl_getR d_Mod_legsOfAll_12 lf_Mod_7 sh_312 rfl ?_
      refine wp_bipush d_Mod_legsOfAll_15 (v := nI 70) rfl ?_
      refine wp_iload_n d_Mod_legsOfAll_17 rfl rfl ?_
      refine wn_iadd d_Mod_legsOfAll_18 ?_
      refine wl_aldn d_Mod_legsOfAll_19 sh_313 (by omega) (RM_L hR h7) ?_
      refine wp_iadd d_Mod_legsOfAll_20 ?_
      refine wp_istore_n d_Mod_legsOfAll_21 rfl (by decide) ?_
      refine wn_iinc d_Mod_legsOfAll_22 rfl ?_
      refine wp_goto 4 d_Mod_legsOfAll_25 rfl ?_
      exact ih (t + 1) _ (by omega) h
theorem c_Mod_legsOfAll  (hR : RM M w) (h : Q (some (.int (sm (wL w) 60 0 (nI 0)))) (lay M)) : Sp X d f_Mod_legsOfAll [.ref 312] (lay M) Q := by
  refine Sp_of rfl rfl (Nat.le_of_ble_eq_true rfl) ?_
  refine wp_iconst d_Mod_legsOfAll_0 (v := nI 0) rfl ?_
  refine wp_istore_n d_Mod_legsOfAll_1 rfl (by decide) ?_
  refine wp_iconst d_Mod_legsOfAll_2 (v := nI 0) rfl ?_
  refine wp_istore_n d_Mod_legsOfAll_3 rfl (by decide) ?_
  exact l_Mod_legsOfAll hR 60 0 _ (by omega) h
theorem l_Mod_nearTo {j : Int32} (hR : RM M w) (hl : wN w ≤ 20) : ∀ (n t : Nat), ∀ (a : Int32) (v : Value), t + n = wN w → Q (some (.int (nearN w j n t a))) (lay M) → wp X (d + 1) f_Mod_nearTo (0, 0) 4 [.ref 312, .int j, .int a, .int (nI t), v] [] (lay M) Q := by
  intro n
  induction n with
  | zero =>
    intro t a v ht h
    refine wp_iload_n d_Mod_nearTo_4 rfl rfl ?_
    refine wp_aload_n d_Mod_nearTo_5 rfl rfl ?_
    refine wl_getR d_Mod_nearTo_6 lf_Mod_7 sh_312 rfl ?_
    refine wp_bipush d_Mod_nearTo_9 (v := nI 8) rfl ?_
    refine wl_aldn d_Mod_nearTo_11 sh_313 (by omega) (RM_N hR) ?_
    refine wn_icmp_ge 57 d_Mod_nearTo_12 rfl (by omega) (by omega) (fun h12 => ?_) (fun h12 => ?_)
    · refine wp_iload_n d_Mod_nearTo_57 rfl rfl ?_
      exact wp_iret d_Mod_nearTo_58 rfl rfl rfl h
    · exact absurd h12 (by omega)
  | succ n ih =>
    intro t a v ht h
    refine wp_iload_n d_Mod_nearTo_4 rfl rfl ?_
    refine wp_aload_n d_Mod_nearTo_5 rfl rfl ?_
    refine wl_getR d_Mod_nearTo_6 lf_Mod_7 sh_312 rfl ?_
    refine wp_bipush d_Mod_nearTo_9 (v := nI 8) rfl ?_
    refine wl_aldn d_Mod_nearTo_11 sh_313 (by omega) (RM_N hR) ?_
    refine wn_icmp_ge 57 d_Mod_nearTo_12 rfl (by omega) (by omega) (fun h12 => ?_) (fun h12 => ?_)
    · exact absurd h12 (by omega)
    · refine wp_aload_n d_Mod_nearTo_15 rfl rfl ?_
      refine wp_aload_n d_Mod_nearTo_16 rfl rfl ?_
      refine wl_getR d_Mod_nearTo_17 lf_Mod_7 sh_312 rfl ?_
      refine wp_aload_n d_Mod_nearTo_20 rfl rfl ?_
      refine wp_iload_n d_Mod_nearTo_21 rfl rfl ?_
      refine wl_callV1 d_Mod_nearTo_22 lc_Mod_thingAt lv_Mod_124 rfl sh_312 rfl rfl ⟨rfl, rfl⟩ ⟨by decide, by decide⟩ ?_
      refine c_Mod_thingAt ?_
      refine wp_iconst d_Mod_nearTo_25 (v := nI 4) rfl ?_
      refine wn_iadd d_Mod_nearTo_26 ?_
      refine wl_aldn d_Mod_nearTo_27 sh_313 (by omega) (RM_T hR h12 (by decide)) ?_
      refine wp_iload_n d_Mod_nearTo_28 rfl rfl ?_
      refine wl_callV2 d_Mod_nearTo_29 lc_Mod_apart lv_Mod_306 rfl sh_312 rfl rfl ⟨rfl, rfl⟩ ⟨by decide, by decide⟩ ?_
      refine c_Mod_apart ?_
      refine wp_istore d_Mod_nearTo_32 (by decide) ?_
      refine wp_iload d_Mod_nearTo_34 rfl ?_
      refine wp_iconst d_Mod_nearTo_36 (v := nI 1) rfl ?_
      refine wq_icmp_eq 47 d_Mod_nearTo_37 rfl (fun h37 => ?_) (fun h37 => ?_)
      · refine wp_iload_n d_Mod_nearTo_47 rfl rfl ?_
        refine wp_iconst d_Mod_nearTo_48 (v := nI 1) rfl ?_
        refine wp_iadd d_Mod_nearTo_49 ?_
        refine wp_istore_n d_Mod_nearTo_50 rfl (by decide) ?_
        refine wn_iinc d_Mod_nearTo_51 rfl ?_
        refine wp_goto 4 d_Mod_nearTo_54 rfl ?_
        exact ih (t + 1) _ _ (by omega) (by simpa [nearN, *] using h)
      · refine wp_iload d_Mod_nearTo_40 rfl ?_
        refine wp_bipush d_Mod_nearTo_42 (v := nI 10) rfl ?_
        refine wq_icmp_ne 51 d_Mod_nearTo_44 rfl (fun h44 => ?_) (fun h44 => ?_)
        · refine wn_iinc d_Mod_nearTo_51 rfl ?_
          refine wp_goto 4 d_Mod_nearTo_54 rfl ?_
          exact ih (t + 1) _ _ (by omega) (by simpa [nearN, *] using h)
        · refine wp_iload_n d_Mod_nearTo_47 rfl rfl ?_
          refine wp_iconst d_Mod_nearTo_48 (v := nI 1) rfl ?_
          refine wp_iadd d_Mod_nearTo_49 ?_
          refine wp_istore_n d_Mod_nearTo_50 rfl (by decide) ?_
          refine wn_iinc d_Mod_nearTo_51 rfl ?_
          refine wp_goto 4 d_Mod_nearTo_54 rfl ?_
          exact ih (t + 1) _ _ (by omega) (by simpa [nearN, *] using h)
theorem c_Mod_nearTo {j : Int32} (hR : RM M w) (hl : wN w ≤ 20) (h : Q (some (.int (wNear w j))) (lay M)) : Sp X (d + 1) f_Mod_nearTo [.ref 312, .int j] (lay M) Q := by
  refine Sp_of rfl rfl (Nat.le_of_ble_eq_true rfl) ?_
  refine wp_iconst d_Mod_nearTo_0 (v := nI 0) rfl ?_
  refine wp_istore_n d_Mod_nearTo_1 rfl (by decide) ?_
  refine wp_iconst d_Mod_nearTo_2 (v := nI 0) rfl ?_
  refine wp_istore_n d_Mod_nearTo_3 rfl (by decide) ?_
  exact l_Mod_nearTo hR hl (wN w) 0 _ _ (by omega) h
end S15
