/-! ===== the nearest of a kind, both ways ===== -/
section S52
variable {z : Nat} {M M2 : mM} {p : Nat → Nat} {W : Wd} {c : Nat} {kind : Int32}
theorem l_nearest (hz : 1000 ≤ z) (hC : CW false 1 M p W) (hR : RM M2 W) (hf : wf c W) (hc : c < 2147483648) : ∀ (m k n : Nat), k + m = 60 → m < n →
    ∃ r, L_Rec_nearest_1 z kind M (some (-1)) n (nI k) = some r ∧ L_Mod_nearest_1 z kind M2 (some (-1)) n (nI k) = some r := by
  have h20 := wf_20 hf
  intro m
  induction m with
  | zero =>
    intro k n hk hn
    obtain ⟨n, rfl⟩ : ∃ k, n = k + 1 := ⟨n - 1, by omega⟩
    refine ⟨-1, ?_, ?_⟩
    · rw [L_Rec_nearest_1, if_neg (lF (by omega) (by omega))]
    · rw [L_Mod_nearest_1, if_neg (lF (by omega) (by omega))]
  | succ m ih =>
    intro k n hk hn
    obtain ⟨n, rfl⟩ : ∃ k, n = k + 1 := ⟨n - 1, by omega⟩
    obtain ⟨r, g1, g2⟩ := ih (k + 1) n (by omega) (by omega)
    rw [L_Rec_nearest_1, if_pos (lT (by omega) (by omega)), L_Mod_nearest_1, if_pos (lT (by omega) (by omega)), cw_thingAt (by omega) (show isW 1 by unfold isW; simp) hC hf hc, ob1_ok, mm_isTaken (by omega) hR h20, ob1_ok, ob1_ok, mm_stuckAt (by omega) hR h20, nadd]
    cases h : wAt W (nI k) with
    | none => exact ⟨r, g1, g2⟩
    | some t =>
      have ht := (wAt_some h).1
      have e1 : M (p t) 1 = wT W t 1 := CW_T hC ht (by omega)
      have e0 : M (p t) 0 = wT W t 0 := CW_T hC ht (by omega)
      have hp := (CW_P hC t (by omega)).1
      have dt : dT (some (p t)) = some (p t) := if_pos (isTh_of (show isW 1 by unfold isW; simp) hp.1 hp.2)
      have nn : ¬ some (p t) = none := fun q => by cases q
      rw [show Option.map p (some t) = some (p t) from rfl, if_pos nn, dt, if_pos (show (some t).isSome = true from rfl), show oI (some t) = nI t from rfl, ob1_ok, ob1_ok, ob1_ok, e1, ob1_ok, mm_thingAt, nadd (130 + 7 * t) 1, ra_ok (by omega) (by omega), ob1_ok, ob1_ok, RM_T hR ht (by omega)]
      by_cases hk : wT W t 1 = kind
      · rw [if_pos (decide_eq_true hk), if_pos (decide_eq_true hk)]
        rw [ob1_ok, mm_thingAt, ra_ok (by omega) (by omega), ob1_ok, e0, RM_T0 hR ht]
        exact ⟨_, rfl, rfl⟩
      · have hd : ¬ decide (wT W t 1 = kind) = true := fun q => hk (of_decide_eq_true q)
        rw [if_neg hd, if_neg hd]
        exact ⟨r, g1, g2⟩
theorem b_nearest (hz : 1000 ≤ z) (hC : CW false 1 M p W) (hR : RM M2 W) (hf : wf c W) (hc : c < 2147483648) : ∃ r, F_Rec_nearest z kind M = some r ∧ F_Mod_nearest z kind M2 = some r :=
  l_nearest hz hC hR hf hc 60 0 z (by omega) (by omega)
end S52
