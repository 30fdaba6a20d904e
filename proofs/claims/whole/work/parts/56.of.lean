/-! ===== what a thing is, both ways ===== -/
section S56
variable {z : Nat} {M N : mM} {p : Nat → Nat} {W : Wd} {c : Nat} {A : LA}
theorem dT_ok (hC : CW false 1 M p W) {t : Nat} (ht : t < 20) : dT (Option.map p (some t)) = some (p t) := by
  have hpt := (CW_P hC t ht).1
  show dT (some (p t)) = some (p t)
  unfold dT
  exact if_pos (isTh_of isW_1 hpt.1 hpt.2)
theorem out29 : ∀ c', inW 1 c' → ¬ (29 ≤ c' ∧ c' ≤ 29 + 4) := fun c' h e => by unfold inW at h; omega
theorem of_no (what : Int32) (h : ¬ F_Rec_within what (nI 0) (nI 9) = true) {k : Nat} (hk : k ≤ 9) : ¬ what = nI k := fun e => h (by rw [e]; exact rg_k (by omega) (Nat.zero_le _) hk)
theorem b_of (hz : 1000 ≤ z) (hC : CW false 1 M p W) (hR : RM N W) (hf : wf c W) (hc : c < 2147483648) (hA : CL 29 M A) (hB : ML N A) (x what : Int32) :
    ∃ r M' N', F_Rec_of z x what M = some (r, M') ∧ F_Mod_of z x what N = some (r, N') ∧ Fr [33] M M' ∧ Fr [330, 331] N N' := by
  have h20 := wf_20 hf
  unfold F_Rec_of F_Mod_of
  rw [cw_find (by omega) isW_1 hC x, ob1_ok, mm_thingOf (by omega) hR h20, ob1_ok, isIn_eq]
  cases hx : wOf W x with
  | none =>
    rw [if_pos (show (Option.map p none : Option Nat) = none from rfl), if_pos (Or.inl (show oI none = (-1 : Int32) from rfl))]
    exact ⟨_, M, N, rfl, rfl, Fr_rf _ _, Fr_rf _ _⟩
  | some t =>
    obtain ⟨ht, e0⟩ := wOf_some hx
    have hd := dT_ok hC (t := t) (by omega)
    have hpt := (CW_P hC t (by omega)).1
    obtain ⟨i, hi, hat⟩ := wf_at hf ht
    have hTC : TC M (p t) (wT W t) := fun k hk => CW_T hC ht hk
    rw [if_neg (show ¬ (Option.map p (some t) : Option Nat) = none from fun h => by cases h), hd, oI_some]
    have htell := fun k => cw_tells (th := false) (w := 1) (ct := p t) (T := wT W t) hz (show isL 29 from Or.inl rfl) out29 (show inW 1 (p t) by unfold inW; omega) hf hc hi hat hA hC hTC (nI k)
    by_cases hw : F_Rec_within what (nI 0) (nI 9) = true
    · rw [if_neg (show ¬ (nI t = (-1 : Int32) ∨ ¬ F_Rec_within what (nI 0) (nI 9) = true) from fun h => h.elim (mF (by omega)) (fun h => h hw))]
      obtain ⟨K, -, hK, rfl⟩ := rng_n (by omega) (by omega) (of_decide_eq_true hw)
      have hcases : K = 0 ∨ K = 1 ∨ K = 2 ∨ K = 3 ∨ K = 4 ∨ K = 5 ∨ K = 6 ∨ K = 7 ∨ K = 8 ∨ K = 9 := by omega
      rcases hcases with rfl | rfl | rfl | rfl | rfl | rfl | rfl | rfl | rfl | rfl
      · refine ⟨wT W t 1, M, N, ?_, ?_, Fr_rf _ _, Fr_rf _ _⟩
        · rw [if_pos rfl, ob1_ok, CW_T hC ht (show 1 < 7 by omega)]
        · rw [if_pos (show nI 0 < nI 6 by decide), mm_thingAt, nadd, nadd, ra_ok (by omega) (by omega), ob1_ok]
          exact congrArg (fun x => some (x, N)) (RM_T hR ht (show 1 < 7 by omega))
      · refine ⟨wT W t 2, M, N, ?_, ?_, Fr_rf _ _, Fr_rf _ _⟩
        · rw [if_neg (show ¬ nI 1 = nI 0 by decide), if_pos rfl, ob1_ok, CW_T hC ht (show 2 < 7 by omega)]
        · rw [if_pos (show nI 1 < nI 6 by decide), mm_thingAt, nadd, nadd, ra_ok (by omega) (by omega), ob1_ok]
          exact congrArg (fun x => some (x, N)) (RM_T hR ht (show 2 < 7 by omega))
      · refine ⟨wT W t 3, M, N, ?_, ?_, Fr_rf _ _, Fr_rf _ _⟩
        · rw [if_neg (show ¬ nI 2 = nI 0 by decide), if_neg (show ¬ nI 2 = nI 1 by decide), if_pos rfl, ob1_ok, CW_T hC ht (show 3 < 7 by omega)]
        · rw [if_pos (show nI 2 < nI 6 by decide), mm_thingAt, nadd, nadd, ra_ok (by omega) (by omega), ob1_ok]
          exact congrArg (fun x => some (x, N)) (RM_T hR ht (show 3 < 7 by omega))
      · refine ⟨wT W t 4, M, N, ?_, ?_, Fr_rf _ _, Fr_rf _ _⟩
        · rw [if_neg (show ¬ nI 3 = nI 0 by decide), if_neg (show ¬ nI 3 = nI 1 by decide), if_neg (show ¬ nI 3 = nI 2 by decide), if_pos rfl, ob1_ok, CW_T hC ht (show 4 < 7 by omega)]
        · rw [if_pos (show nI 3 < nI 6 by decide), mm_thingAt, nadd, nadd, ra_ok (by omega) (by omega), ob1_ok]
          exact congrArg (fun x => some (x, N)) (RM_T hR ht (show 4 < 7 by omega))
      · refine ⟨wT W t 5, M, N, ?_, ?_, Fr_rf _ _, Fr_rf _ _⟩
        · rw [if_neg (show ¬ nI 4 = nI 0 by decide), if_neg (show ¬ nI 4 = nI 1 by decide), if_neg (show ¬ nI 4 = nI 2 by decide), if_neg (show ¬ nI 4 = nI 3 by decide), if_pos rfl, ob1_ok, CW_T hC ht (show 5 < 7 by omega)]
        · rw [if_pos (show nI 4 < nI 6 by decide), mm_thingAt, nadd, nadd, ra_ok (by omega) (by omega), ob1_ok]
          exact congrArg (fun x => some (x, N)) (RM_T hR ht (show 5 < 7 by omega))
      · refine ⟨wT W t 6, M, N, ?_, ?_, Fr_rf _ _, Fr_rf _ _⟩
        · rw [if_neg (show ¬ nI 5 = nI 0 by decide), if_neg (show ¬ nI 5 = nI 1 by decide), if_neg (show ¬ nI 5 = nI 2 by decide), if_neg (show ¬ nI 5 = nI 3 by decide), if_neg (show ¬ nI 5 = nI 4 by decide), if_pos rfl, ob1_ok, CW_T hC ht (show 6 < 7 by omega)]
        · rw [if_pos (show nI 5 < nI 6 by decide), mm_thingAt, nadd, nadd, ra_ok (by omega) (by omega), ob1_ok]
          exact congrArg (fun x => some (x, N)) (RM_T hR ht (show 6 < 7 by omega))
      · obtain ⟨M', a1, a2⟩ := htell 0
        obtain ⟨N1, b1, b2, b3⟩ := mm_asksOf hz hR hf ht
        obtain ⟨N2, d1, d2⟩ := mm_sticks hz (RM_fr hR b3 (by simp) (by simp)) (ML_congr hB (fun c' h1 h2 => b3 c' (by simp only [List.mem_cons, List.not_mem_nil, or_false]; omega))) b2
        refine ⟨tellsS A (nI 0) (envW W (wT W t)), M', N2, ?_, ?_, a2, fun c' h => ?_⟩
        · rw [if_neg (show ¬ nI 6 = nI 0 by decide), if_neg (show ¬ nI 6 = nI 1 by decide), if_neg (show ¬ nI 6 = nI 2 by decide), if_neg (show ¬ nI 6 = nI 3 by decide), if_neg (show ¬ nI 6 = nI 4 by decide), if_neg (show ¬ nI 6 = nI 5 by decide), if_pos rfl, ob1_ok, a1, ob2_ok]
        · rw [if_neg (show ¬ nI 6 < nI 6 by decide), if_neg (show ¬ nI 6 = nI 7 by decide), if_neg (show ¬ nI 6 = nI 8 by decide), if_neg (show ¬ nI 6 = nI 9 by decide), b1, ob1_ok, d1, ob2_ok]
        · simp only [List.mem_cons, List.not_mem_nil, or_false] at h
          rw [d2 c' (by simp only [List.mem_cons, List.not_mem_nil, or_false]; omega), b3 c' (by simp only [List.mem_cons, List.not_mem_nil, or_false]; omega)]
      · obtain ⟨M', a1, a2⟩ := htell 1
        obtain ⟨N2, d1, d2⟩ := mm_frees hz hR hB hf ht
        refine ⟨tellsS A (nI 1) (envW W (wT W t)), M', N2, ?_, ?_, a2, d2⟩
        · rw [if_neg (show ¬ nI 7 = nI 0 by decide), if_neg (show ¬ nI 7 = nI 1 by decide), if_neg (show ¬ nI 7 = nI 2 by decide), if_neg (show ¬ nI 7 = nI 3 by decide), if_neg (show ¬ nI 7 = nI 4 by decide), if_neg (show ¬ nI 7 = nI 5 by decide), if_neg (show ¬ nI 7 = nI 6 by decide), if_pos rfl, ob1_ok, a1, ob2_ok]
        · rw [if_neg (show ¬ nI 7 < nI 6 by decide), if_pos rfl, d1, ob2_ok]
      · obtain ⟨M', a1, a2⟩ := htell 2
        obtain ⟨N2, d1, d2⟩ := mm_slides hz hR hB hf ht
        refine ⟨tellsS A (nI 2) (envW W (wT W t)), M', N2, ?_, ?_, a2, d2⟩
        · rw [if_neg (show ¬ nI 8 = nI 0 by decide), if_neg (show ¬ nI 8 = nI 1 by decide), if_neg (show ¬ nI 8 = nI 2 by decide), if_neg (show ¬ nI 8 = nI 3 by decide), if_neg (show ¬ nI 8 = nI 4 by decide), if_neg (show ¬ nI 8 = nI 5 by decide), if_neg (show ¬ nI 8 = nI 6 by decide), if_neg (show ¬ nI 8 = nI 7 by decide), if_pos rfl, ob1_ok, a1, ob2_ok]
        · rw [if_neg (show ¬ nI 8 < nI 6 by decide), if_neg (show ¬ nI 8 = nI 7 by decide), if_pos rfl, d1, ob2_ok]
      · refine ⟨wNr W (nI i), M, N, ?_, ?_, Fr_rf _ _, Fr_rf _ _⟩
        · rw [if_neg (show ¬ nI 9 = nI 0 by decide), if_neg (show ¬ nI 9 = nI 1 by decide), if_neg (show ¬ nI 9 = nI 2 by decide), if_neg (show ¬ nI 9 = nI 3 by decide), if_neg (show ¬ nI 9 = nI 4 by decide), if_neg (show ¬ nI 9 = nI 5 by decide), if_neg (show ¬ nI 9 = nI 6 by decide), if_neg (show ¬ nI 9 = nI 7 by decide), if_neg (show ¬ nI 9 = nI 8 by decide), if_pos rfl, ob1_ok, CW_T hC ht (show 4 < 7 by omega), hat, cw_near hC hf hc, ob1_ok]
        · rw [if_neg (show ¬ nI 9 < nI 6 by decide), if_neg (show ¬ nI 9 = nI 7 by decide), if_neg (show ¬ nI 9 = nI 8 by decide), if_pos rfl, mm_thingAt, nadd, ra_ok (by omega) (by omega), ob1_ok, RM_T hR ht (show 4 < 7 by omega), hat, mm_nearTo (by omega) hR hf hi, ob1_ok]
    · rw [if_pos (show nI t = (-1 : Int32) ∨ ¬ F_Rec_within what (nI 0) (nI 9) = true from Or.inr hw), if_neg (of_no what hw (show 0 ≤ 9 by omega)), if_neg (of_no what hw (show 1 ≤ 9 by omega)), if_neg (of_no what hw (show 2 ≤ 9 by omega)), if_neg (of_no what hw (show 3 ≤ 9 by omega)), if_neg (of_no what hw (show 4 ≤ 9 by omega)), if_neg (of_no what hw (show 5 ≤ 9 by omega)), if_neg (of_no what hw (show 6 ≤ 9 by omega)), if_neg (of_no what hw (show 7 ≤ 9 by omega)), if_neg (of_no what hw (show 8 ≤ 9 by omega)), if_neg (of_no what hw (show 9 ≤ 9 by omega))]
      exact ⟨_, M, N, rfl, rfl, Fr_rf _ _, Fr_rf _ _⟩
end S56
