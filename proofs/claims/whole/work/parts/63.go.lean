/-! ===== what can be let go by so much wind: both ways ===== -/
section S63
variable {z : Nat} {M N : mM} {p q : Nat → Nat} {W : Wd} {c : Nat} {A : LA}
theorem out29w : ∀ c', inW 109 c' → ¬ (29 ≤ c' ∧ c' ≤ 29 + 4) := fun c' h e => by unfold inW at h; omega
theorem setS_back (W : Wd) (k : Nat) (x : Int32) : wSetS (wSetS W k x) k (wS W k) = W := by
  show ((upd (upd (wS W) k x) k (wS W k), wG W, wL W, wT W, wN W, wB W, wb W) : Wd) = W
  have e : upd (upd (wS W) k x) k (wS W k) = wS W := by
    funext j
    by_cases h : j = k
    · subst h
      rw [upd_same]
    · rw [upd_ne _ _ h, upd_ne _ _ h]
  rw [e]
theorem l_go (hz : 1000 ≤ z) (hf : wf c W) (hc : c < 2147483648) : ∀ (m k n : Nat) (a : Int32) (M N : mM), k + m = wN W → m < n → CL 29 M A → ML N A → CW false 109 M q W → RM N W →
    ∃ v M' N', L_Rec_freeBy_1 z n a (nI k) M = some (v, M') ∧ L_Mod_goingBy_1 z n a (nI k) N = some (v, N') ∧ Fr [33] M M' ∧ Fr [330, 331] N N' := by
  have h20 := wf_20 hf
  intro m
  induction m with
  | zero =>
    intro k n a M N hk hn hA hB hC hR
    obtain ⟨n, rfl⟩ : ∃ k, n = k + 1 := ⟨n - 1, by omega⟩
    have hge : ¬ nI k < nI (wN W) := lF (by omega) (by omega)
    rw [L_Rec_freeBy_1, L_Mod_goingBy_1, CW_N hC, if_neg hge, ra_ok (by omega) (by omega), ob1_ok, ob1_ok, RM_N hR, if_neg (show ¬ decide (nI k < nI (wN W)) = true from fun h => hge (of_decide_eq_true h))]
    exact ⟨_, M, N, rfl, rfl, Fr_rf _ _, Fr_rf _ _⟩
  | succ m ih =>
    intro k n a M N hk hn hA hB hC hR
    obtain ⟨n, rfl⟩ : ∃ k, n = k + 1 := ⟨n - 1, by omega⟩
    have hkN : k < wN W := by omega
    have hlt : nI k < nI (wN W) := lT (by omega) (by omega)
    have hpt := (CW_P hC k (by omega)).1
    rw [L_Rec_freeBy_1, L_Mod_goingBy_1, CW_N hC, if_pos hlt, ra_ok (by omega) (by omega), ob1_ok, ob1_ok, RM_N hR, if_pos (show decide (nI k < nI (wN W)) = true from decide_eq_true hlt), rT_ok isW_109 (CW_P hC) (by omega), ob1_ok, ob1_ok, mm_thingAt, nadd, nadd, ra_ok (by omega) (by omega), ob1_ok, ob1_ok, CW_T hC hkN (by omega), RM_T hR hkN (by omega)]
    by_cases hl : nI 1 < wT W k 6
    · rw [decide_eq_false (fun h => h hl), if_neg Bool.false_ne_true, if_neg Bool.false_ne_true, ob2_ok, ob2_ok, if_neg Bool.false_ne_true, if_neg Bool.false_ne_true, ob2_ok, ob2_ok]
      exact ih (k + 1) n a M N (by omega) (by omega) hA hB hC hR
    · obtain ⟨i, hi, hat⟩ := wf_at hf hkN
      have hTC : TC M (q k) (wT W k) := fun j hj => CW_T hC hkN hj
      obtain ⟨M1, a1, a2⟩ := cw_tells (th := false) (w := 109) (ct := q k) (T := wT W k) hz (show isL 29 from Or.inl rfl) out29w (show inW 109 (q k) by unfold inW; omega) hf hc hi hat hA hC hTC (nI 1)
      obtain ⟨N1, d1, d2⟩ := mm_frees hz hR hB hf hkN
      have e1 : ∀ c', c' ≠ 33 → M1 c' = M c' := fun c' h => a2 c' (by simp only [List.mem_cons, List.not_mem_nil, or_false]; omega)
      have e2 : ∀ c', c' ≠ 330 → c' ≠ 331 → N1 c' = N c' := fun c' h h' => d2 c' (by simp only [List.mem_cons, List.not_mem_nil, or_false]; omega)
      obtain ⟨v, hv, ev, -⟩ := tells_nat (A := A) (x := nI 1) (env := envW W (wT W k))
      rw [decide_eq_true hl, if_pos rfl, if_pos rfl, a1, d1, ob2_ok, ob2_ok, ob2_ok, ob2_ok, ev, nmul]
      have A1 : CL 29 M1 A := CL_congr hA (fun c' h1 h2 => e1 c' (by omega))
      have B1 : ML N1 A := ML_congr hB (fun c' h1 h2 => e2 c' (by omega) (by omega))
      have C1 : CW false 109 M1 q W := CW_congr hC (fun c' h => e1 c' (by unfold inW at h; omega))
      have R1 : RM N1 W := RM_congr (e2 313 (by omega) (by omega)) (e2 316 (by omega) (by omega)) hR
      have fin : ∀ a, ∃ v M' N', L_Rec_freeBy_1 z n a (nI (k + 1)) M1 = some (v, M') ∧ L_Mod_goingBy_1 z n a (nI (k + 1)) N1 = some (v, N') ∧ Fr [33] M M' ∧ Fr [330, 331] N N' := fun a => by
        obtain ⟨v', M', N', g1, g2, g3, g4⟩ := ih (k + 1) n a M1 N1 (by omega) (by omega) A1 B1 C1 R1
        exact ⟨v', M', N', g1, g2, Fr_tr a2 g3, Fr_tr d2 g4⟩
      by_cases hv5 : v < 500
      · rw [decide_eq_false (fun h => h (lT hv5 (by omega))), decide_eq_false (fun h => h (lT (show 2 * v < 1000 by omega) (by omega))), if_neg Bool.false_ne_true, if_neg Bool.false_ne_true, ob2_ok, ob2_ok]
        exact fin _
      · rw [decide_eq_true (lF (show 500 ≤ v by omega) (by omega)), decide_eq_true (lF (show 1000 ≤ 2 * v by omega) (by omega)), if_pos rfl, if_pos rfl, ob2_ok, ob2_ok]
        exact fin _
theorem b_freeBy (hz : 1000 ≤ z) (hf : wf c W) (hc : c < 2147483648) (hA : CL 29 M A) (hB : ML N A) (hC : CW false 1 M p W) (hq : TP 109 M q) (hR : RM N W) (x : Int32) :
    ∃ v M' N', F_Rec_freeBy z x M = some (v, M') ∧ F_Mod_goingBy z x N = some (v, N') ∧ TP 109 M' q ∧ (∀ c', ¬ inW 109 c' → c' ≠ 33 → M' c' = M c') ∧ RM N' W ∧ Fr [313, 330, 331] N N' := by
  obtain ⟨M1, a1, a2, a3⟩ := cw_copy hz isW_109 isW_1 (by omega) hq hC (wf_150 hf)
  have C2 : CW false 109 (up M1 109 7 x) q (wSetS W 3 x) := CW_setS (k := 3) a2 (by omega) (by omega)
  have e2 : ∀ c', c' ≠ 109 → up M1 109 7 x c' = M1 c' := fun c' h => upC h
  have A2 : CL 29 (up M1 109 7 x) A := CL_congr hA (fun c' h1 h2 => by rw [e2 c' (by omega), a3 c' (by unfold inW; omega)])
  have R2 : RM (up N 313 3 x) (wSetS W 3 x) := RM_setS hR (by omega) (by omega)
  have B2 : ML (up N 313 3 x) A := ML_congr hB (fun c' h1 h2 => upC (by omega))
  obtain ⟨v, M', N', g1, g2, g3, g4⟩ := l_go hz (wf_setS hf (k := 3) (x := x) (by omega)) hc (wN W) 0 z (nI 0) (up M1 109 7 x) (up N 313 3 x) (Nat.zero_add _) (by have := wf_20 hf; omega) A2 B2 C2 R2
  have e3 : ∀ c', c' ≠ 33 → M' c' = up M1 109 7 x c' := fun c' h => g3 c' (by simp only [List.mem_cons, List.not_mem_nil, or_false]; omega)
  have R3 : RM N' (wSetS W 3 x) := RM_congr (g4 313 (by simp)) (g4 316 (by simp)) R2
  have R4 := RM_setS (x := wS W 3) R3 (k := 3) (by omega) (by omega)
  rw [setS_back] at R4
  refine ⟨v, M', up N' 313 3 (wS W 3), ?_, ?_, TP_cg (CW_P C2) (e3 _ (by omega)), fun c' h1 h2 => ?_, R4, fun c' h => ?_⟩
  · unfold F_Rec_freeBy
    rw [a1, ob1_ok, ob1_ok, g1, ob2_ok]
  · unfold F_Mod_goingBy
    rw [ra_ok (by omega) (by omega), ob1_ok, wa_ok (by omega) (by omega), ob1_ok, g2, ob2_ok, wa_ok (by omega) (by omega), ob1_ok, RM_S hR (by omega) (by omega)]
  · rw [e3 c' h2, e2 c' (fun e => h1 (by rw [e]; unfold inW; omega)), a3 c' h1]
  · simp only [List.mem_cons, List.not_mem_nil, or_false] at h
    rw [upC (by omega), g4 c' (by simp only [List.mem_cons, List.not_mem_nil, or_false]; omega), upC (by omega)]
theorem l_least (hz : 1000 ≤ z) (hf : wf c W) (hc : c < 2147483648) : ∀ (m k n : Nat) (M N : mM), k + m = 10 → m < n → CL 29 M A → ML N A → CW false 1 M p W → TP 109 M q → RM N W →
    ∃ v M' N', L_Rec_leastWind_1 z (fun (M14 : mM) => some ((-1), M14)) n (nI k) M = some (v, M') ∧ L_Mod_go_1 z (fun (M14 : mM) => some ((-1), M14)) n (nI k) N = some (v, N') ∧ TP 109 M' q ∧ (∀ c', ¬ inW 109 c' → c' ≠ 33 → M' c' = M c') ∧ RM N' W ∧ Fr [313, 330, 331] N N' := by
  intro m
  induction m with
  | zero =>
    intro k n M N hk hn hA hB hC hq hR
    obtain ⟨n, rfl⟩ : ∃ k, n = k + 1 := ⟨n - 1, by omega⟩
    rw [L_Rec_leastWind_1, L_Mod_go_1, if_neg (fun h => h (lT (by omega) (by omega))), if_neg (lF (by omega) (by omega))]
    exact ⟨_, M, N, rfl, rfl, hq, fun _ _ _ => rfl, hR, Fr_rf _ _⟩
  | succ m ih =>
    intro k n M N hk hn hA hB hC hq hR
    obtain ⟨n, rfl⟩ : ∃ k, n = k + 1 := ⟨n - 1, by omega⟩
    obtain ⟨v, M1, N1, a1, a2, a3, a4, a5, a6⟩ := b_freeBy hz hf hc hA hB hC hq hR (nI k)
    have e6 : ∀ c', c' ≠ 313 → c' ≠ 330 → c' ≠ 331 → N1 c' = N c' := fun c' h h' h'' => a6 c' (by simp only [List.mem_cons, List.not_mem_nil, or_false]; omega)
    rw [L_Rec_leastWind_1, L_Mod_go_1, if_pos (lF (by omega) (by omega)), if_pos (lT (by omega) (by omega)), a1, a2, ob2_ok, ob2_ok, ob2_ok, ob2_ok]
    by_cases hv : nI 0 < v
    · rw [decide_eq_true hv, if_pos rfl, if_pos rfl]
      exact ⟨_, M1, N1, rfl, rfl, a3, a4, a5, a6⟩
    · rw [decide_eq_false hv, if_neg Bool.false_ne_true, if_neg Bool.false_ne_true, nadd]
      obtain ⟨v', M', N', g1, g2, g3, g4, g5, g6⟩ := ih (k + 1) n M1 N1 (by omega) (by omega) (CL_congr hA (fun c' h1 h2 => a4 c' (by unfold inW; omega) (by omega))) (ML_congr hB (fun c' h1 h2 => e6 c' (by omega) (by omega) (by omega))) (CW_congr hC (fun c' h => a4 c' (by unfold inW at *; omega) (by unfold inW at h; omega))) a3 a5
      exact ⟨v', M', N', g1, g2, g3, fun c' h1 h2 => (g4 c' h1 h2).trans (a4 c' h1 h2), g5, Fr_tr a6 g6⟩
theorem go_rng {v : Int32} (h : v ≠ -1) : F_Mod_isIn v (-1) (nI 9) = F_Rec_within v (nI 0) (nI 9) := by
  unfold F_Mod_isIn F_Rec_within
  apply decide_eq_decide.mpr
  have h1 : ¬ v.toInt = -1 := fun e => h (Int32.toInt_inj.mp e)
  have h2 : (-1 : Int32).toInt = -1 := rfl
  have h3 : (nI 0).toInt = 0 := rfl
  rw [Int32.lt_iff_toInt_lt, Int32.lt_iff_toInt_lt, Int32.lt_iff_toInt_lt, h2, h3]
  omega
theorem b_go (hz : 1000 ≤ z) (hf : wf c W) (hc : c < 2147483648) (hA : CL 29 M A) (hB : ML N A) (hC : CW false 1 M p W) (hq : TP 109 M q) (hR : RM N W) (x : Int32) :
    ∃ v M' N', F_Rec_go z x M = some (v, M') ∧ F_Mod_go z x N = some (v, N') ∧ TP 109 M' q ∧ (∀ c', ¬ inW 109 c' → c' ≠ 33 → M' c' = M c') ∧ RM N' W ∧ Fr [313, 330, 331] N N' := by
  unfold F_Rec_go F_Mod_go
  by_cases hx : x = -1
  · obtain ⟨v, M', N', g1, g2, g3⟩ := l_least hz hf hc 10 0 z M N (by omega) (by omega) hA hB hC hq hR
    have hin : ¬ ¬ F_Mod_isIn x (-1) (nI 9) = true := fun h => h (by rw [hx]; decide)
    unfold F_Rec_leastWind
    rw [if_pos hx, if_neg hin, if_neg (fun h => h hx), g1, g2, ob2_ok]
    exact ⟨v, M', N', rfl, rfl, g3⟩
  · rw [if_neg hx, go_rng hx]
    by_cases hw : F_Rec_within x (nI 0) (nI 9) = true
    · obtain ⟨v, M', N', g1, g2, g3⟩ := b_freeBy hz hf hc hA hB hC hq hR x
      rw [if_pos hw, if_neg (fun h => h hw), if_pos hx, g1, g2, ob2_ok, ob2_ok, ob2_ok]
      exact ⟨v, M', N', rfl, rfl, g3⟩
    · rw [if_neg hw, if_pos hw, ob2_ok]
      exact ⟨_, M, N, rfl, rfl, hq, fun _ _ _ => rfl, hR, Fr_rf _ _⟩
end S63
