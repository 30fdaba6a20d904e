/-! ===== look, fault, leans: both ways ===== -/
section S59
variable {z r : Nat} {M N : mM} {p : Nat → Nat} {W : Wd} {P : Ps} {c : Nat} {T : Tx} {A : LA} {S F : Rw}
theorem b_look (hz : 1000 ≤ z) (hC : CW false 1 M p W) (hP : PC M r P) (hR : RM N W) (hPM : PM N P) (hA : CL 29 M A) (hB : ML N A) (hRS : RwS 36 M S) (hRF : RwF 34 M F) (hDS : RMs N S) (hDF : RMf N F) (hCT : CT 28 M T) (hMT : MT N T) (what : Int32) :
    ∃ v, F_Rec_look z what M = some v ∧ F_Mod_look z what N = some v := by
  unfold F_Rec_look F_Mod_look
  by_cases h0 : what = nI 0
  · rw [if_pos h0, if_pos h0, ra_ok (by omega) (by omega), ob1_ok]
    exact ⟨nI (wN W), congrArg some (CW_N hC), congrArg some (RM_N hR)⟩
  · rw [if_neg h0, if_neg h0]
    by_cases h1 : what = nI 1
    · rw [if_pos h1, if_pos h1, ra_ok (by omega) (by omega), ob1_ok]
      exact ⟨wS W 5, congrArg some (CW_S hC (k := 5) (by omega) (by omega)), congrArg some (RM_S hR (k := 5) (by omega) (by omega))⟩
    · rw [if_neg h1, if_neg h1]
      by_cases h2 : what = nI 2
      · rw [if_pos h2, if_pos h2, ra_ok (by omega) (by omega), ob1_ok]
        exact ⟨wS W 6, congrArg some (CW_S hC (k := 6) (by omega) (by omega)), congrArg some (RM_S hR (k := 6) (by omega) (by omega))⟩
      · rw [if_neg h2, if_neg h2]
        by_cases h3 : what = nI 3
        · rw [if_pos h3, if_pos h3, ra_ok (by omega) (by omega), ob1_ok]
          exact ⟨wS W 7, congrArg some (CW_S hC (k := 7) (by omega) (by omega)), congrArg some (RM_S hR (k := 7) (by omega) (by omega))⟩
        · rw [if_neg h3, if_neg h3]
          by_cases h4 : what = nI 4
          · rw [if_pos h4, if_pos h4, ra_ok (by omega) (by omega), ob1_ok]
            exact ⟨wS W 3, congrArg some (CW_S hC (k := 3) (by omega) (by omega)), congrArg some (RM_S hR (k := 3) (by omega) (by omega))⟩
          · rw [if_neg h4, if_neg h4]
            by_cases h5 : what = nI 5
            · rw [if_pos h5, if_pos h5, ra_ok (by omega) (by omega), ob1_ok]
              exact ⟨wS W 4, congrArg some (CW_S hC (k := 4) (by omega) (by omega)), congrArg some (RM_S hR (k := 4) (by omega) (by omega))⟩
            · rw [if_neg h5, if_neg h5]
              by_cases h6 : what = nI 6
              · rw [if_pos h6, if_pos h6, cw_sum (by omega), ob1_ok]
                unfold F_Mod_legsOfAll
                rw [l_msumL hR 60 0 z (nI 0) (by omega) (by omega), ob1_ok, ob1_ok]
                exact ⟨_, rfl, congrArg some (sumF_cg 60 0 _ (fun j _ h => (CW_L hC (by omega)).symm))⟩
              · rw [if_neg h6, if_neg h6]
                by_cases h7 : what = nI 7
                · rw [if_pos h7, if_pos h7, ra_ok (by omega) (by omega), ob1_ok]
                  exact ⟨wS W 0, congrArg some (CW_S hC (k := 0) (by omega) (by omega)), congrArg some (RM_S hR (k := 0) (by omega) (by omega))⟩
                · rw [if_neg h7, if_neg h7]
                  by_cases h8 : what = nI 8
                  · rw [if_pos h8, if_pos h8, ra_ok (by omega) (by omega), ob1_ok]
                    exact ⟨nI (wb W), congrArg some ((CW_B hC).1), congrArg some (RM_b hR)⟩
                  · rw [if_neg h8, if_neg h8]
                    by_cases h9 : what = nI 9
                    · rw [if_pos h9, if_pos h9, ra_ok (by omega) (by omega), ob1_ok]
                      exact ⟨wS W 1, congrArg some (CW_S hC (k := 1) (by omega) (by omega)), congrArg some (RM_S hR (k := 1) (by omega) (by omega))⟩
                    · rw [if_neg h9, if_neg h9]
                      by_cases h10 : what = nI 10
                      · rw [if_pos h10, if_pos h10, ra_ok (by omega) (by omega), ob1_ok]
                        exact ⟨nI (aN A), congrArg some (hA.2.1), congrArg some (hB.2.1)⟩
                      · rw [if_neg h10, if_neg h10]
                        by_cases h11 : what = nI 11
                        · rw [if_pos h11, if_pos h11]
                          exact ⟨nI F.1, congrArg some (hRF.1), congrArg some (hDF.1)⟩
                        · rw [if_neg h11, if_neg h11]
                          by_cases h12 : what = nI 12
                          · rw [if_pos h12, if_pos h12]
                            exact ⟨nI S.1, congrArg some (hRS.1), congrArg some (hDS.1)⟩
                          · rw [if_neg h12, if_neg h12]
                            by_cases h13 : what = nI 13
                            · rw [if_pos h13, if_pos h13]
                              exact ⟨nI (tStr T).1, congrArg some (hCT.1.1), congrArg some (hMT.1.1)⟩
                            · rw [if_neg h13, if_neg h13]
                              by_cases h14 : what = nI 14
                              · rw [if_pos h14, if_pos h14]
                                exact ⟨nI P.1, congrArg some (hP.2.2.1), congrArg some (hPM.2.1)⟩
                              · rw [if_neg h14, if_neg h14]
                                exact ⟨-1, rfl, rfl⟩
theorem l_lean1 (hz : 100 ≤ z) (hC : CW false 1 M p W) (hR : RM N W) (hf : wf c W) (hc : c < 2147483648) : ∀ (m n : Nat) (a x : Int32), x = nI m - nI 1 → m ≤ 60 → m < n → ∃ v, L_Asker_lean_1 z 1 M n a x = some v ∧ L_Mod_leans_1 z N n a x = some v := by
  have h20 := wf_20 hf
  intro m
  induction m with
  | zero =>
    intro n a x hx hm hn
    obtain ⟨n, rfl⟩ : ∃ k, n = k + 1 := ⟨n - 1, by omega⟩
    have hneg : x < nI 0 := by rw [hx]; decide
    rw [L_Asker_lean_1, L_Mod_leans_1, if_neg (fun h => h hneg), if_neg (fun h => h hneg), ob1_ok, ob1_ok, if_neg Bool.false_ne_true, if_neg Bool.false_ne_true]
    exact ⟨_, rfl, rfl⟩
  | succ m ih =>
    intro n a x hx hm hn
    obtain ⟨n, rfl⟩ : ∃ k, n = k + 1 := ⟨n - 1, by omega⟩
    have hx' : x = nI m := by rw [hx, nsb (by omega), Nat.add_sub_cancel]
    subst hx'
    have hnn : ¬ nI m < nI 0 := lF (Nat.zero_le _) (by omega)
    have hstep : nI m + (-1) = nI m - nI 1 := by rw [show nI 1 = (1 : Int32) from rfl]; grind
    rw [L_Asker_lean_1, L_Mod_leans_1, if_pos hnn, if_pos hnn, cw_isTaken hC hf hc, mm_isTaken (by omega) hR h20, ob1_ok, ob1_ok, ob1_ok]
    cases h : wAt W (nI m) with
    | none =>
      rw [if_neg (show ¬ (none : Option Nat).isSome = true from Bool.false_ne_true), if_neg (show ¬ (none : Option Nat).isSome = true from Bool.false_ne_true)]
      exact ⟨_, rfl, rfl⟩
    | some t =>
      have ht := (wAt_some h).1
      unfold F_Asker_sizeAt
      rw [if_pos (show (some t).isSome = true from rfl), if_pos (show (some t).isSome = true from rfl), cw_thingAt (by omega) isW_1 hC hf hc, h, ob1_ok, if_neg (show ¬ (Option.map p (some t) : Option Nat) = none from fun h => by cases h), dT_ok hC (by omega), ob1_ok, ob1_ok, ob1_ok,
        mm_stuckAt (by omega) hR h20, h, ob1_ok, oI_some, mm_thingAt, nadd, ra_ok (by omega) (by omega), ob1_ok, CW_T hC ht (by omega), RM_T hR ht (by omega)]
      exact ih n _ _ hstep (by omega) (by omega)
theorem l_lean2 (hz : 100 ≤ z) (hC : CW false 1 M p W) (hR : RM N W) (hf : wf c W) (hc : c < 2147483648) : ∀ (m k n : Nat) (a : Int32), k + m = 60 → m < n → ∃ v, L_Asker_lean_2 z 1 M n a (nI k) = some v ∧ L_Mod_leans_2 z N n a (nI k) = some v := by
  have h20 := wf_20 hf
  intro m
  induction m with
  | zero =>
    intro k n a hk hn
    obtain ⟨n, rfl⟩ : ∃ k, n = k + 1 := ⟨n - 1, by omega⟩
    have hneg : ¬ nI k < nI 60 := lF (by omega) (by omega)
    rw [L_Asker_lean_2, L_Mod_leans_2, if_neg hneg, if_neg hneg, ob1_ok, ob1_ok, if_neg Bool.false_ne_true, if_neg Bool.false_ne_true]
    exact ⟨_, rfl, rfl⟩
  | succ m ih =>
    intro k n a hk hn
    obtain ⟨n, rfl⟩ : ∃ k, n = k + 1 := ⟨n - 1, by omega⟩
    have hnn : nI k < nI 60 := lT (by omega) (by omega)
    rw [L_Asker_lean_2, L_Mod_leans_2, if_pos hnn, if_pos hnn, cw_isTaken hC hf hc, mm_isTaken (by omega) hR h20, ob1_ok, ob1_ok, ob1_ok]
    cases h : wAt W (nI k) with
    | none =>
      rw [if_neg (show ¬ (none : Option Nat).isSome = true from Bool.false_ne_true), if_neg (show ¬ (none : Option Nat).isSome = true from Bool.false_ne_true)]
      exact ⟨_, rfl, rfl⟩
    | some t =>
      have ht := (wAt_some h).1
      unfold F_Asker_sizeAt
      rw [if_pos (show (some t).isSome = true from rfl), if_pos (show (some t).isSome = true from rfl), cw_thingAt (by omega) isW_1 hC hf hc, h, ob1_ok, if_neg (show ¬ (Option.map p (some t) : Option Nat) = none from fun h => by cases h), dT_ok hC (by omega), ob1_ok, ob1_ok, ob1_ok,
        mm_stuckAt (by omega) hR h20, h, ob1_ok, oI_some, mm_thingAt, nadd, nadd, ra_ok (by omega) (by omega), ob1_ok, CW_T hC ht (by omega), RM_T hR ht (by omega)]
      exact ih (k + 1) n _ (by omega) (by omega)
theorem b_leans (hz : 1000 ≤ z) (hC : CW false 1 M p W) (hR : RM N W) (hf : wf c W) (hc : c < 2147483648) (x : Int32) : ∃ v, F_Rec_leans z x M = some v ∧ F_Mod_leans z x N = some v := by
  have h20 := wf_20 hf
  unfold F_Rec_leans F_Mod_leans
  rw [cw_find (by omega) isW_1 hC x, ob1_ok, mm_thingOf (by omega) hR h20, ob1_ok]
  cases hx : wOf W x with
  | none =>
    rw [if_pos (show (Option.map p none : Option Nat) = none from rfl), if_pos (show oI none = (-1 : Int32) from rfl), ob1_ok]
    exact ⟨_, rfl, rfl⟩
  | some t =>
    obtain ⟨ht, e0⟩ := wOf_some hx
    obtain ⟨i, hi, hat⟩ := wf_at hf ht
    obtain ⟨v1, a1, a2⟩ := l_lean1 (z := z) (by omega) hC hR hf hc i z (nI 0) (nI i - nI 1) rfl (by omega) (by omega)
    obtain ⟨v2, b1, b2⟩ := l_lean2 (z := z) (by omega) hC hR hf hc (60 - (i + 1)) (i + 1) z v1 (by omega) (by omega)
    unfold F_Asker_lean
    rw [if_neg (show ¬ (Option.map p (some t) : Option Nat) = none from fun h => by cases h), dT_ok hC (by omega), ob1_ok, oI_some, if_neg (mF (by omega)), mm_thingAt, nadd, ra_ok (by omega) (by omega), ob1_ok, CW_T hC ht (by omega), RM_T hR ht (by omega), hat, a1, a2, ob1_ok, ob1_ok, nadd, b1, b2, ob1_ok, ob1_ok, ob1_ok]
    exact ⟨_, rfl, rfl⟩
end S59
