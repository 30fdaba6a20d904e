/-! ===== the game of tweezers: both ways ===== -/
theorem worth_tab : ∀ s, s < 10 → xWorths s = F_Mod_nimber (nI s) := by decide
theorem nim_0 : F_Mod_nimber (nI 0) = nI 0 := by decide
section S62
variable {z : Nat} {M N : mM} {p : Nat → Nat} {W : Wd} {c : Nat}
theorem worth_ok {s : Nat} (hs : s < 10) : F_Asker_worth (nI s) M = some (F_Mod_nimber (nI s)) := by
  unfold F_Asker_worth
  rw [if_pos ⟨lF (Nat.zero_le _) (by omega), lT hs (by omega)⟩, rxs_ok hs (by omega), ob1_ok, ob1_ok, worth_tab s hs]
theorem l_game1 (hC : CW false 1 M p W) (hR : RM N W) (hf : wf c W) : ∀ (m k n : Nat) (a : Int32), k + m = wN W → m < n → ∃ v, L_Asker_bestTake_1 z 1 M n a (nI k) = some v ∧ L_Mod_game_1 z N n a (nI k) = some v := by
  have h20 := wf_20 hf
  intro m
  induction m with
  | zero =>
    intro k n a hk hn
    obtain ⟨n, rfl⟩ : ∃ k, n = k + 1 := ⟨n - 1, by omega⟩
    have hge : ¬ nI k < nI (wN W) := lF (by omega) (by omega)
    rw [L_Asker_bestTake_1, L_Mod_game_1, CW_N hC, if_neg hge, ra_ok (by omega) (by omega), ob1_ok, ob1_ok, RM_N hR, if_neg (show ¬ decide (nI k < nI (wN W)) = true from fun h => hge (of_decide_eq_true h))]
    exact ⟨_, rfl, rfl⟩
  | succ m ih =>
    intro k n a hk hn
    obtain ⟨n, rfl⟩ : ∃ k, n = k + 1 := ⟨n - 1, by omega⟩
    have hlt : nI k < nI (wN W) := lT (by omega) (by omega)
    obtain ⟨s, s1, s2, hs⟩ := wf_size hf (show k < wN W by omega)
    rw [L_Asker_bestTake_1, L_Mod_game_1, CW_N hC, if_pos hlt, ra_ok (by omega) (by omega), ob1_ok, ob1_ok, RM_N hR, if_pos (show decide (nI k < nI (wN W)) = true from decide_eq_true hlt), rT_ok isW_1 (CW_P hC) (by omega), ob1_ok, mm_thingAt, nadd, nadd, ra_ok (by omega) (by omega), ob1_ok, CW_T hC (show k < wN W by omega) (by omega), RM_T hR (show k < wN W by omega) (by omega), hs, worth_ok (by omega), ob1_ok]
    exact ih (k + 1) n _ (by omega) (by omega)
theorem take_ok {s : Nat} (h1 : 1 ≤ s) (h9 : s ≤ 9) (a : Int32) : F_Asker_takeFrom (nI s) a M = some (if F_Mod_nimber (nI s - nI 1) = a ^^^ F_Mod_nimber (nI s) then nI 1 else if nI s < nI 4 ∧ a ^^^ F_Mod_nimber (nI s) = nI 0 then nI s else -1) := by
  unfold F_Asker_takeFrom
  rw [worth_ok (by omega), ob1_ok, nsb h1, worth_ok (by omega), ob1_ok, ob1_ok]
  by_cases e : F_Mod_nimber (nI (s - 1)) = a ^^^ F_Mod_nimber (nI s)
  · rw [if_pos e, decide_eq_true e.symm, if_pos rfl]
  · rw [if_neg e, decide_eq_false (fun h => e h.symm), if_neg Bool.false_ne_true]
    by_cases h3 : s < 4
    · rw [if_pos (lF (by omega) (by omega)), worth_ok (by omega), ob1_ok, nim_0, ob1_ok]
      by_cases e0 : a ^^^ F_Mod_nimber (nI s) = nI 0
      · rw [decide_eq_true e0, if_pos rfl, ob1_ok, if_pos ⟨lT h3 (by omega), e0⟩]
      · rw [decide_eq_false e0, if_neg Bool.false_ne_true, ob1_ok, if_neg (fun h => e0 h.2)]
    · rw [if_neg (fun h => h (lT (by omega) (by omega))), ob1_ok, if_neg Bool.false_ne_true, ob1_ok, if_neg (fun h => lF (by omega) (by omega) h.1)]
theorem l_game2 (hz : 100 ≤ z) (hC : CW false 1 M p W) (hR : RM N W) (hf : wf c W) (hc : c < 2147483648) (what a : Int32) : ∀ (m k n : Nat), k + m = 60 → m < n → ∃ v, L_Asker_bestTake_2 z 1 what a M (some (-1)) n (nI k) = some v ∧ L_Mod_game_2 z what a N (some (-1)) n (nI k) = some v := by
  have h20 := wf_20 hf
  intro m
  induction m with
  | zero =>
    intro k n hk hn
    obtain ⟨n, rfl⟩ : ∃ k, n = k + 1 := ⟨n - 1, by omega⟩
    have hge : ¬ nI k < nI 60 := lF (by omega) (by omega)
    rw [L_Asker_bestTake_2, L_Mod_game_2, if_neg hge, if_neg hge]
    exact ⟨_, rfl, rfl⟩
  | succ m ih =>
    intro k n hk hn
    obtain ⟨n, rfl⟩ : ∃ k, n = k + 1 := ⟨n - 1, by omega⟩
    have hlt : nI k < nI 60 := lT (by omega) (by omega)
    rw [L_Asker_bestTake_2, L_Mod_game_2, if_pos hlt, if_pos hlt, cw_thingAt (by omega) isW_1 hC hf hc, mm_isTaken (by omega) hR h20, ob1_ok, ob1_ok, ob1_ok, ob1_ok]
    cases h : wAt W (nI k) with
    | none =>
      rw [if_pos (show (Option.map p none : Option Nat) = none from rfl), ob1_ok, if_neg (show ¬ ¬ ((-1 : Int32) = -1) from fun h => h rfl), if_pos (show (!(none : Option Nat).isSome) = true from rfl), nadd]
      exact ih (k + 1) n (by omega) (by omega)
    | some t =>
      have ht := (wAt_some h).1
      obtain ⟨s, s1, s2, hs⟩ := wf_size hf ht
      rw [if_neg (show ¬ (Option.map p (some t) : Option Nat) = none from fun h => by cases h), dT_ok hC (by omega), ob1_ok, CW_T hC ht (by omega), hs, take_ok s1 s2, ob1_ok, ob1_ok, if_neg (show ¬ (!(some t).isSome) = true from Bool.false_ne_true), mm_stuckAt (by omega) hR h20, h, oI_some, ob1_ok, ob1_ok, mm_thingAt, nadd (130 + 7 * t) 2, ra_ok (k := 130 + 7 * t + 2) (by omega) (by omega), ob1_ok, RM_T hR ht (by omega), hs]
      by_cases e : F_Mod_nimber (nI s - nI 1) = a ^^^ F_Mod_nimber (nI s)
      · rw [if_pos e, if_pos e, if_pos (mF (by omega)), ra_ok (by omega) (by omega), ob1_ok]
        by_cases h0 : what = nI 0
        · rw [if_pos h0, if_pos h0, ob1_ok, ob1_ok, CW_T hC ht (by omega), RM_T0 hR ht]
          exact ⟨_, rfl, rfl⟩
        · rw [if_neg h0, if_neg h0, ob1_ok]
          exact ⟨_, rfl, rfl⟩
      · rw [if_neg e, if_neg e]
        by_cases e2 : nI s < nI 4 ∧ a ^^^ F_Mod_nimber (nI s) = nI 0
        · rw [if_pos e2, if_pos e2, if_pos (mF (by omega)), ra_ok (by omega) (by omega), ob1_ok]
          by_cases h0 : what = nI 0
          · rw [if_pos h0, if_pos h0, ob1_ok, ob1_ok, CW_T hC ht (by omega), RM_T0 hR ht]
            exact ⟨_, rfl, rfl⟩
          · rw [if_neg h0, if_neg h0, ob1_ok]
            exact ⟨_, rfl, rfl⟩
        · rw [if_neg e2, if_neg e2, if_neg (fun h => h rfl), nadd]
          exact ih (k + 1) n (by omega) (by omega)
theorem b_game (hz : 100 ≤ z) (hC : CW false 1 M p W) (hR : RM N W) (hf : wf c W) (hc : c < 2147483648) (what : Int32) : ∃ v, F_Rec_game z what M = some v ∧ F_Mod_game z what N = some v := by
  have h20 := wf_20 hf
  unfold F_Rec_game F_Mod_game F_Asker_bestTake
  rw [isIn_eq]
  by_cases hw : F_Rec_within what (nI 0) (nI 1) = true
  · obtain ⟨v, a1, a2⟩ := l_game1 (z := z) hC hR hf (wN W) 0 z (nI 0) (by omega) (by omega)
    obtain ⟨v', b1, b2⟩ := l_game2 hz hC hR hf hc what v 60 0 z (by omega) (by omega)
    rw [if_pos hw, if_neg (fun h => h hw), a1, a2, ob1_ok, ob1_ok, b1, b2, ob1_ok, ob1_ok]
    exact ⟨_, rfl, rfl⟩
  · rw [if_neg hw, if_pos hw, ob1_ok]
    exact ⟨_, rfl, rfl⟩
end S62
