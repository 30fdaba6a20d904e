/-! ===== sets as bits ===== -/
def allB (p : Nat → Bool) : Nat → Nat → Bool
  | 0, k => p k
  | d + 1, k => allB p d (2 * k) && allB p d (2 * k + 1)
theorem allB_ok {p : Nat → Bool} : ∀ (d k : Nat), allB p d k = true → ∀ s, k * 2 ^ d ≤ s → s < (k + 1) * 2 ^ d → p s = true := by
  intro d
  induction d with
  | zero =>
    intro k h s h1 h2
    have : s = k := by omega
    rw [this]
    exact h
  | succ d ih =>
    intro k h s h1 h2
    rw [allB, Bool.and_eq_true] at h
    have e : 2 ^ (d + 1) = 2 * 2 ^ d := by rw [Nat.pow_succ, Nat.mul_comm]
    rw [e] at h1 h2
    have e1 : k * (2 * 2 ^ d) = 2 * k * 2 ^ d := by rw [← Nat.mul_assoc, Nat.mul_comm k 2]
    have e2 : (k + 1) * (2 * 2 ^ d) = (2 * k + 1 + 1) * 2 ^ d := by rw [← Nat.mul_assoc]; congr 1; omega
    rw [e1] at h1
    rw [e2] at h2
    by_cases h3 : s < (2 * k + 1) * 2 ^ d
    · exact ih (2 * k) h.1 s h1 h3
    · exact ih (2 * k + 1) h.2 s (by omega) h2
def pcI (x : Int32) : Int32 := (F_Integer_bitCount x).getD (nI 0)
def pcN (s : Nat) : Nat := (pcI (nI s)).toNatClampNeg
theorem bitCount_ok (x : Int32) : F_Integer_bitCount x = some (pcI x) := rfl
def pcOk (s : Nat) : Bool := decide (pcI (nI s) = nI (pcN s)) && decide (pcN s ≤ 12) && decide (s < 256 → pcN s ≤ 8) && decide (L_Mod_onesOf_1 0 13 (nI 0) (nI s) = some (pcI (nI s)))
set_option maxRecDepth 100000 in
theorem pc_all : allB pcOk 12 0 = true := by decide +kernel
theorem pc_ok {s : Nat} (h : s < 4096) : pcI (nI s) = nI (pcN s) ∧ pcN s ≤ 12 ∧ (s < 256 → pcN s ≤ 8) ∧ L_Mod_onesOf_1 0 13 (nI 0) (nI s) = some (pcI (nI s)) := by
  have h1 := allB_ok 12 0 pc_all s (by omega) (by omega)
  unfold pcOk at h1
  rw [Bool.and_eq_true, Bool.and_eq_true, Bool.and_eq_true] at h1
  obtain ⟨⟨⟨h2, h3⟩, h4⟩, h5⟩ := h1
  exact ⟨of_decide_eq_true h2, of_decide_eq_true h3, of_decide_eq_true h4, of_decide_eq_true h5⟩
theorem ones_more {z z' : Nat} : ∀ (n n' : Nat) (a v r : Int32), n ≤ n' → L_Mod_onesOf_1 z n a v = some r → L_Mod_onesOf_1 z' n' a v = some r := by
  intro n
  induction n with
  | zero => intro n' a v r _ h; cases h
  | succ n ih =>
    intro n' a v r hn h
    obtain ⟨n', rfl⟩ : ∃ k, n' = k + 1 := ⟨n' - 1, by omega⟩
    rw [L_Mod_onesOf_1] at h ⊢
    by_cases hv : ¬ v = nI 0
    · rw [if_pos hv] at h ⊢
      exact ih n' _ _ r (by omega) h
    · rw [if_neg hv] at h ⊢
      exact h
theorem ones_ok {z s : Nat} (hz : 100 ≤ z) (h : s < 4096) : F_Mod_onesOf z (nI s) = some (nI (pcN s)) := by
  obtain ⟨h1, -, -, h4⟩ := pc_ok h
  unfold F_Mod_onesOf
  rw [ones_more (z' := z) 13 z _ _ _ (by omega) h4, ob1_ok, h1]
theorem shl_n : ∀ n, n < 13 → jshl (nI 1) (nI n) = nI (2 ^ n) := by decide
theorem shr_0 : ∀ k, k < 16 → ¬ (jshr (nI 0) (nI k) &&& nI 1 = nI 1) := by decide
