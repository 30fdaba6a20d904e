/-! ===== what would be: goes, both ways ===== -/
def sThinkL (A : LA) (S F : Rw) : Nat → Wd → Wd
  | 0, W => W
  | m + 1, W => sThinkL A S F m (sDay true A S F W)
def sumF (g : Nat → Int32) : Nat → Nat → Int32 → Int32
  | 0, _, a => a
  | m + 1, k, a => sumF g m (k + 1) (a + g k)
theorem sumF_cg {g g' : Nat → Int32} : ∀ (m k : Nat) (a : Int32), (∀ j, k ≤ j → j < k + m → g' j = g j) → sumF g' m k a = sumF g m k a := by
  intro m
  induction m with
  | zero => intro k a _; rfl
  | succ m ih =>
    intro k a h
    rw [sumF, sumF, h k (by omega) (by omega)]
    exact ih (k + 1) _ (fun j h1 h2 => h j (by omega) (by omega))
def sGoes (W : Wd) (what : Int32) : Int32 := if what = nI 0 then nI (wN W) else if what = nI 1 then wS W 6 else if what = nI 2 then sumF (wL W) 60 0 (nI 0) else sumF (wG W) 60 0 (nI 0)
section S46
variable {z : Nat} {M : mM} {p : Nat → Nat} {W : Wd} {P : Ps} {c : Nat} {A : LA} {S F : Rw}
theorem l_csum {r : Nat} : ∀ (m k n : Nat) (a : Int32), k + m = 60 → m < n → L_Rec_sum_1 z r 60 (nI 60) M n a (nI k) = some (sumF (M r) m k a) := by
  intro m
  induction m with
  | zero =>
    intro k n a hk hn
    obtain ⟨n, rfl⟩ : ∃ k, n = k + 1 := ⟨n - 1, by omega⟩
    rw [L_Rec_sum_1, if_neg (lF (by omega) (by omega))]
    rfl
  | succ m ih =>
    intro k n a hk hn
    obtain ⟨n, rfl⟩ : ∃ k, n = k + 1 := ⟨n - 1, by omega⟩
    rw [L_Rec_sum_1, if_pos (lT (by omega) (by omega)), ra_ok (by omega) (by omega), ob1_ok, nadd, ih (k + 1) n _ (by omega) (by omega)]
    rfl
theorem cw_sum (hz : 1000 ≤ z) {r : Nat} : F_Rec_sum z r 60 M = some (sumF (M r) 60 0 (nI 0)) := by
  unfold F_Rec_sum
  rw [l_csum 60 0 z _ (by omega) (by omega), ob1_ok]
theorem l_msumG (hR : RM M W) : ∀ (m k n : Nat) (a : Int32), k + m = 60 → m < n → L_Mod_glueOfAll_1 z M n a (nI k) = some (sumF (wG W) m k a) := by
  intro m
  induction m with
  | zero =>
    intro k n a hk hn
    obtain ⟨n, rfl⟩ : ∃ k, n = k + 1 := ⟨n - 1, by omega⟩
    rw [L_Mod_glueOfAll_1, if_neg (lF (by omega) (by omega))]
    rfl
  | succ m ih =>
    intro k n a hk hn
    obtain ⟨n, rfl⟩ : ∃ k, n = k + 1 := ⟨n - 1, by omega⟩
    rw [L_Mod_glueOfAll_1, if_pos (lT (by omega) (by omega)), mm_glue hR (by omega), ob1_ok, nadd, ih (k + 1) n _ (by omega) (by omega)]
    rfl
theorem l_msumL (hR : RM M W) : ∀ (m k n : Nat) (a : Int32), k + m = 60 → m < n → L_Mod_legsOfAll_1 z M n a (nI k) = some (sumF (wL W) m k a) := by
  intro m
  induction m with
  | zero =>
    intro k n a hk hn
    obtain ⟨n, rfl⟩ : ∃ k, n = k + 1 := ⟨n - 1, by omega⟩
    rw [L_Mod_legsOfAll_1, if_neg (lF (by omega) (by omega))]
    rfl
  | succ m ih =>
    intro k n a hk hn
    obtain ⟨n, rfl⟩ : ∃ k, n = k + 1 := ⟨n - 1, by omega⟩
    rw [L_Mod_legsOfAll_1, if_pos (lT (by omega) (by omega)), nadd 70 k, ra_ok (by omega) (by omega), ob1_ok, RM_L hR (by omega), nadd, ih (k + 1) n _ (by omega) (by omega)]
    rfl
theorem l_cGoes (hz : 1000 ≤ z) (hS : okS S) (hF : okF F) {N : Nat} (hN : N ≤ 60) : ∀ (m k n : Nat) (M : mM) (p : Nat → Nat) (W : Wd) (c : Nat), k + m = N → m < n → c + 16 * m < 2147483648 → CL 29 M A → CW true 109 M p W → wf c W → RwS 36 M S → RwF 34 M F →
    ∃ M' p', L_Rec_goes_1 z (nI N) n (nI k) M = some M' ∧ CW true 109 M' p' (sThinkL A S F m W) ∧ FrW 109 29 M M' := by
  intro m
  induction m with
  | zero =>
    intro k n M p W c hk hn hc hA hC hf hRS hRF
    obtain ⟨n, rfl⟩ : ∃ k, n = k + 1 := ⟨n - 1, by omega⟩
    refine ⟨M, p, ?_, hC, FrW_rf _ _ _⟩
    rw [L_Rec_goes_1, if_neg (lF (by omega) (by omega))]
  | succ m ih =>
    intro k n M p W c hk hn hc hA hC hf hRS hRF
    obtain ⟨n, rfl⟩ : ∃ k, n = k + 1 := ⟨n - 1, by omega⟩
    obtain ⟨M2, p2, b1, b2, b3⟩ := cw_day (th := true) (t0 := 28) hz (show isW 109 by unfold isW; simp) (show isL (28 + 1) by unfold isL; simp) (fun c' h => by unfold inW at h; omega) hS hF hA hC hf (by omega) hRS hRF
    have A2 : CL 29 M2 A := CL_FrW (w := 109) (l := 29) (fun c' h e => by unfold inW at h; omega) b3 hA
    have e2 : ∀ c', ¬ inW 109 c' → c' ≠ 33 → M2 c' = M c' := fun c' h1 h2 => b3 c' h1 h2
    have S2 : RwS 36 M2 S := by
      unfold RwS
      rw [e2 36 (by unfold inW; omega) (by omega), e2 (36 + 1) (by unfold inW; omega) (by omega)]
      exact hRS
    have F2 : RwF 34 M2 F := by
      unfold RwF
      rw [e2 34 (by unfold inW; omega) (by omega), e2 (34 + 1) (by unfold inW; omega) (by omega)]
      exact hRF
    have f2 : wf (c + 16) (sDay true A S F W) := wf_day hS hF hf (by omega)
    obtain ⟨M', p', g1, g2, g3⟩ := ih (k + 1) n M2 p2 _ (c + 16) (by omega) (by omega) (by omega) A2 b2 f2 S2 F2
    refine ⟨M', p', ?_, g2, FrW_tr b3 g3⟩
    rw [L_Rec_goes_1, if_pos (lT (by omega) (by omega)), b1, ob1_ok, nadd]
    exact g1
theorem l_mGoes (hz : 1000 ≤ z) (hS : okS S) (hF : okF F) {N : Nat} (hN : N ≤ 60) : ∀ (m k n : Nat) (M : mM) (W : Wd) (c : Nat), k + m = N → m < n → c + 16 * m < 2147483648 → ML M A → RM M W → wf c W → M 312 5 = bI true → RMs M S → RMf M F →
    ∃ M', L_Mod_goes_1 z (nI N) n (nI k) M = some M' ∧ RM M' (sThinkL A S F m W) ∧ Fr FM M M' := by
  intro m
  induction m with
  | zero =>
    intro k n M W c hk hn hc hA hR hf hth hDS hDF
    obtain ⟨n, rfl⟩ : ∃ k, n = k + 1 := ⟨n - 1, by omega⟩
    refine ⟨M, ?_, hR, Fr_rf _ _⟩
    rw [L_Mod_goes_1, if_neg (lF (by omega) (by omega))]
  | succ m ih =>
    intro k n M W c hk hn hc hA hR hf hth hDS hDF
    obtain ⟨n, rfl⟩ : ∃ k, n = k + 1 := ⟨n - 1, by omega⟩
    obtain ⟨M2, b1, b2, b3⟩ := mm_day (z := z) (th := true) hz hS hF hR hth hA hf (by omega) hDS hDF
    have A2 : ML M2 A := ML_congr hA (fun c' h1 h2 => b3 c' (by simp; omega))
    have S2 : RMs M2 S := by
      unfold RMs
      rw [b3 328 (by simp), b3 312 (by simp)]
      exact hDS
    have F2 : RMf M2 F := by
      unfold RMf
      rw [b3 327 (by simp), b3 312 (by simp)]
      exact hDF
    have f2 : wf (c + 16) (sDay true A S F W) := wf_day hS hF hf (by omega)
    obtain ⟨M', g1, g2, g3⟩ := ih (k + 1) n M2 _ (c + 16) (by omega) (by omega) (by omega) A2 b2 f2 (by rw [b3 312 (by simp)]; exact hth) S2 F2
    refine ⟨M', ?_, g2, Fr_tr b3 g3⟩
    rw [L_Mod_goes_1, if_pos (lT (by omega) (by omega)), b1, ob2_ok, nadd]
    exact g1
end S46
