/-! ===== division, rests, sums of a prime, rows filled ===== -/
theorem ndiv {a b : Nat} (ha : a < 2147483648) (hb : b < 2147483648) : nI a / nI b = nI (a / b) := by
  have h1 : a / b ≤ a := Nat.div_le_self a b
  apply Int32.toInt_inj.mp
  rw [Int32.toInt_div, nI_toInt ha, nI_toInt hb, nI_toInt (by omega), ← Int.ofNat_tdiv]
  obtain ⟨q, hq⟩ : ∃ q, q = a / b := ⟨_, rfl⟩
  rw [← hq] at h1 ⊢
  exact Int.bmod_eq_of_le (by omega) (by omega)
theorem nrem {a b : Nat} (ha : a < 2147483648) (hb : b < 2147483648) : jrem (nI a) (nI b) = nI (a % b) := by
  unfold jrem
  have h1 := Nat.div_add_mod a b
  have h2 : a / b * b = b * (a / b) := Nat.mul_comm _ _
  have h3 := Nat.div_mul_le_self a b
  rw [ndiv ha hb, nmul, nsb h3]
  congr 1
  omega
theorem added_n {a b : Nat} (ha : a < 1000000007) (hb : b < 1000000007) : F_Mod_added (nI a) (nI b) = nI ((a + b) % 1000000007) := by
  unfold F_Mod_added
  rw [nsb (show b ≤ 1000000007 by omega)]
  by_cases h : a < 1000000007 - b
  · rw [if_neg (fun h' => h' (lT h (by omega))), nadd, Nat.mod_eq_of_lt (by omega)]
  · rw [if_pos (lF (by omega) (by omega)), nsb (by omega)]
    congr 1
    rw [show a + b = (a + b - 1000000007) + 1000000007 by omega, Nat.add_mod_right, Nat.mod_eq_of_lt (by omega)]
    omega
theorem rem_n {a b : Nat} (ha : a < 1000000007) (hb : b < 1000000007) : jrem (nI a + nI b) (nI 1000000007) = nI ((a + b) % 1000000007) := by
  rw [nadd, nrem (by omega) (by omega)]
section S60
variable {z : Nat} {M : mM}
theorem l_fill {c n : Nat} (hn : n ≤ 5000) (v : Int32) : ∀ (m k f : Nat) (M : mM), k + m = n → m < f → L_Arrays_fill_1 z c n v (nI n) f (nI k) M = some (fil M c k n (fun _ => v)) := by
  intro m
  induction m with
  | zero =>
    intro k f M hk hf
    obtain ⟨f, rfl⟩ : ∃ k, f = k + 1 := ⟨f - 1, by omega⟩
    rw [L_Arrays_fill_1, if_neg (lF (by omega) (by omega)), fil_end (by omega)]
  | succ m ih =>
    intro k f M hk hf
    obtain ⟨f, rfl⟩ : ∃ k, f = k + 1 := ⟨f - 1, by omega⟩
    rw [L_Arrays_fill_1, if_pos (lT (by omega) (by omega)), wa_ok (by omega) (by omega), ob1_ok, nadd, ih (k + 1) f _ (by omega) (by omega)]
    exact congrArg some (fil_step (g := fun _ => v) (g' := fun _ => v) (by omega) (fun _ _ _ => rfl))
theorem fill_ok {c n : Nat} (hn : n ≤ 5000) (hz : n < z) (v : Int32) : F_Arrays_fill z c n v M = some (fil M c 0 n (fun _ => v)) := by
  unfold F_Arrays_fill
  rw [l_fill hn v n 0 z M (by omega) hz, ob1_ok]
end S60
