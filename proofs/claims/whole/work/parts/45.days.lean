/-! ===== days, both ways ===== -/
def sDaysL (A : LA) (S F : Rw) : Nat → Ps → Wd → Ps × Wd
  | 0, P, W => (P, W)
  | m + 1, P, W => sDaysL A S F m (sRem P W) (sDay false A S F W)
/-- what the class's days may change -/
def FrD (M M' : mM) : Prop := (∀ c', c' ≠ 0 → ¬ inW 1 c' → c' ≠ 33 → (c' < 150 ∨ 312 ≤ c') → M' c' = M c') ∧ ∀ j, j ≠ 6 → j ≠ 7 → M' 0 j = M 0 j
theorem FrD_tr {M M1 M' : mM} (h : FrD M M1) (h' : FrD M1 M') : FrD M M' := ⟨fun c' a b e f => (h'.1 c' a b e f).trans (h.1 c' a b e f), fun j a b => (h'.2 j a b).trans (h.2 j a b)⟩
theorem rem_6 {P : Ps} {W : Wd} (h : P.1 ≤ 6) : (sRem P W).1 ≤ 6 := by
  unfold sRem
  split
  · exact Nat.le_refl _
  · show P.1 + 1 ≤ 6; omega
section S45
variable {z : Nat} {M : mM} {p : Nat → Nat} {W : Wd} {P : Ps} {c : Nat} {A : LA} {S F : Rw}
theorem out28 : ∀ c', inW 1 c' → ¬ (28 ≤ c' ∧ c' ≤ 28 + 21) := fun c' h => by unfold inW at h; omega
theorem PC_cg {r : Nat} {M' : mM} (h : PC M r P) (e : ∀ c', (c' = 99 ∨ (150 ≤ c' ∧ c' < 312)) → M' c' = M c') (e6 : M' 0 6 = M 0 6) (e7 : M' 0 7 = M 0 7) : PC M' r P := by
  obtain ⟨n6, r6, h7, h6, hi, hk⟩ := h
  refine ⟨n6, r6, e7.trans h7, e6.trans h6, fun i h => ?_, fun k h => ?_⟩
  · obtain ⟨g1, q, g2⟩ := hi i h
    exact ⟨by rw [e _ (by omega)]; exact g1, q, TP_cg g2 (e _ (by omega))⟩
  · obtain ⟨g1, q, g2⟩ := hk k h
    have h3 : rgx r P.1 k < 6 := Nat.mod_lt _ (by omega)
    exact ⟨g1, q, CW_congr g2 (fun c' hc => e c' (by unfold inW at hc; omega))⟩
theorem l_cDays (hz : 1000 ≤ z) (hS : okS S) (hF : okF F) {N : Nat} (hN : N ≤ 60) : ∀ (m k n : Nat) (M : mM) (p : Nat → Nat) (W : Wd) (P : Ps) (r c : Nat), k + m = N → m < n → c + 16 * m < 2147483648 → CL 29 M A → CW false 1 M p W → PC M r P → wf c W → RwS 36 M S → RwF 34 M F →
    ∃ M' p' r', L_Rec_days_1 z (nI N) n (nI k) M = some M' ∧ CW false 1 M' p' (sDaysL A S F m P W).2 ∧ PC M' r' (sDaysL A S F m P W).1 ∧ wf (c + 16 * m) (sDaysL A S F m P W).2 ∧ FrD M M' := by
  intro m
  induction m with
  | zero =>
    intro k n M p W P r c hk hn hc hA hC hP hf hRS hRF
    obtain ⟨n, rfl⟩ : ∃ k, n = k + 1 := ⟨n - 1, by omega⟩
    refine ⟨M, p, r, ?_, hC, hP, hf, fun _ _ _ _ _ => rfl, fun _ _ _ => rfl⟩
    rw [L_Rec_days_1, if_neg (lF (by omega) (by omega))]
  | succ m ih =>
    intro k n M p W P r c hk hn hc hA hC hP hf hRS hRF
    obtain ⟨n, rfl⟩ : ∃ k, n = k + 1 := ⟨n - 1, by omega⟩
    obtain ⟨M1, r1, a1, a2, a3, a4⟩ := cw_remember hz hC (wf_150 hf) hP
    have C1 : CW false 1 M1 p W := CW_congr hC (fun c' hc => a3 c' (by unfold inW at hc; omega) (by unfold inW at hc; omega))
    have A1 : CL 29 M1 A := CL_congr hA (fun c' h1 h2 => a3 c' (by omega) (by omega))
    have S1 : RwS 36 M1 S := by
      unfold RwS
      rw [a3 36 (by omega) (by omega), a3 (36 + 1) (by omega) (by omega)]
      exact hRS
    have F1 : RwF 34 M1 F := by
      unfold RwF
      rw [a3 34 (by omega) (by omega), a3 (34 + 1) (by omega) (by omega)]
      exact hRF
    obtain ⟨M2, p2, b1, b2, b3⟩ := cw_day (th := false) (t0 := 28) hz (show isW 1 by unfold isW; simp) (show isL (28 + 1) by unfold isL; simp) out28 hS hF A1 C1 hf (by omega) S1 F1
    have A2 : CL 29 M2 A := CL_FrW (w := 1) (l := 29) (fun c' h e => by unfold inW at h; omega) b3 A1
    have e2 : ∀ c', ¬ inW 1 c' → c' ≠ 33 → M2 c' = M1 c' := fun c' h1 h2 => b3 c' h1 h2
    have S2 : RwS 36 M2 S := by
      unfold RwS
      rw [e2 36 (by unfold inW; omega) (by omega), e2 (36 + 1) (by unfold inW; omega) (by omega)]
      exact S1
    have F2 : RwF 34 M2 F := by
      unfold RwF
      rw [e2 34 (by unfold inW; omega) (by omega), e2 (34 + 1) (by unfold inW; omega) (by omega)]
      exact F1
    have e0 : M2 0 = M1 0 := e2 0 (by unfold inW; omega) (by omega)
    have P2 : PC M2 r1 (sRem P W) := PC_cg a2 (fun c' h => e2 c' (by unfold inW; omega) (by omega)) (by rw [e0]) (by rw [e0])
    have f2 : wf (c + 16) (sDay false A S F W) := wf_day hS hF hf (by omega)
    obtain ⟨M', p', r', g1, g2, g3, g4, g5⟩ := ih (k + 1) n M2 p2 _ _ r1 (c + 16) (by omega) (by omega) (by omega) A2 b2 P2 f2 S2 F2
    refine ⟨M', p', r', ?_, g2, g3, by rw [show c + 16 * (m + 1) = c + 16 + 16 * m by omega]; exact g4, FrD_tr ⟨fun c' h1 h2 h3 h4 => ?_, fun j h1 h2 => ?_⟩ g5⟩
    · rw [L_Rec_days_1, if_pos (lT (by omega) (by omega)), a1, ob1_ok, b1, ob1_ok, nadd]
      exact g1
    · rw [e2 c' h2 h3, a3 c' h1 h4]
    · rw [e0, a4 j h1 h2]
theorem l_mDays (hz : 2000 ≤ z) (hS : okS S) (hF : okF F) {N : Nat} (hN : N ≤ 60) : ∀ (m k n : Nat) (a : Int32) (M : mM) (W : Wd) (P : Ps) (c : Nat), k + m = N → m < n → c + 16 * m < 2147483648 → ML M A → RM M W → PM M P → preP P W → wf c W → M 312 5 = bI false → RMs M S → RMf M F →
    ∃ M', L_Mod_days_1 z (nI N) n a (nI k) M = some (a + (wS (sDaysL A S F m P W).2 6 - wS W 6), M') ∧ RM M' (sDaysL A S F m P W).2 ∧ PM M' (sDaysL A S F m P W).1 ∧ preP (sDaysL A S F m P W).1 (sDaysL A S F m P W).2 ∧ (∀ c', c' ∉ [312, 313, 314, 316, 330, 331] → M' c' = M c') ∧ ∀ j, j ≠ 3 → M' 312 j = M 312 j := by
  intro m
  induction m with
  | zero =>
    intro k n a M W P c hk hn hc hA hR hP hp hf hth hDS hDF
    obtain ⟨n, rfl⟩ : ∃ k, n = k + 1 := ⟨n - 1, by omega⟩
    refine ⟨M, ?_, hR, hP, hp, fun _ _ => rfl, fun _ _ => rfl⟩
    rw [L_Mod_days_1, if_neg (lF (by omega) (by omega))]
    exact congrArg some (Prod.ext (i_nil a _) rfl)
  | succ m ih =>
    intro k n a M W P c hk hn hc hA hR hP hp hf hth hDS hDF
    obtain ⟨n, rfl⟩ : ∃ k, n = k + 1 := ⟨n - 1, by omega⟩
    obtain ⟨M1, a1, a2, a3, a4⟩ := mm_keepsAhead hz hR (wf_20 hf) hP
    have R1 : RM M1 W := RM_congr (a3 313 (by omega) (by omega)) (a3 316 (by omega) (by omega)) hR
    have A1 : ML M1 A := ML_congr hA (fun c' h1 h2 => a3 c' (by omega) (by omega))
    have S1 : RMs M1 S := by
      unfold RMs
      rw [a3 328 (by omega) (by omega), a4 32 (by omega)]
      exact hDS
    have F1 : RMf M1 F := by
      unfold RMf
      rw [a3 327 (by omega) (by omega), a4 30 (by omega)]
      exact hDF
    obtain ⟨M2, b1, b2, b3⟩ := mm_day (z := z) (th := false) (by omega) hS hF R1 (by rw [a4 5 (by omega)]; exact hth) A1 hf (by omega) S1 F1
    have hpd : pre W (sDay false A S F W) := pre_day S F W
    have P2 : PM M2 (sRem P W) := PM_on a2 R1 b2 (preP_rem hp) hpd (by rw [b3 312 (by simp)]) (b3 314 (by simp))
    have A2 : ML M2 A := ML_congr A1 (fun c' h1 h2 => b3 c' (by simp; omega))
    have S2 : RMs M2 S := by
      unfold RMs
      rw [b3 328 (by simp), b3 312 (by simp)]
      exact S1
    have F2 : RMf M2 F := by
      unfold RMf
      rw [b3 327 (by simp), b3 312 (by simp)]
      exact F1
    have f2 : wf (c + 16) (sDay false A S F W) := wf_day hS hF hf (by omega)
    obtain ⟨M', g1, g2, g3, g4, g5, g6⟩ := ih (k + 1) n (a + (wS (sDay false A S F W) 6 - wS W 6)) M2 _ _ (c + 16) (by omega) (by omega) (by omega) A2 b2 P2 (preP_tr (preP_rem hp) hpd) f2 (by rw [b3 312 (by simp), a4 5 (by omega)]; exact hth) S2 F2
    refine ⟨M', ?_, g2, g3, g4, fun c' h => ?_, fun j hj => by rw [g6 j hj, b3 312 (by simp), a4 j hj]⟩
    · rw [L_Mod_days_1, if_pos (lT (by omega) (by omega)), a1, ob1_ok, b1, ob2_ok, nadd, g1]
      exact congrArg some (Prod.ext (i_tel _ _ _ _) rfl)
    · rw [g5 c' h, b3 c' (fun e => h (by simp at e ⊢; omega)), a3 c' (fun e => h (by simp [e])) (fun e => h (by simp [e]))]
end S45
