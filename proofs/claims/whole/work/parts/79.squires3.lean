/-! ===== a balance of squires: the model's search, and the end ===== -/
section S79
variable {z : Nat} {M N : mM} {p : Nat → Nat} {W : Wd} {c s T : Nat} {f : Nat → Nat} {q : Nat → Nat → Bool}
def MI (q : Nat → Nat → Bool) (T a0 n k a b : Nat) : Prop :=
  (a = a0 ∧ b = 0 ∧ ∀ n' v', v' < 181 → (n' < n ∨ (n' = n ∧ v' < k)) → q n' v' = false) ∨ ((∃ v, v < 181 ∧ q b v = true ∧ ab T v = a) ∧ b ≤ n ∧ ∀ n' v', v' < 181 → (n' < n ∨ (n' = n ∧ v' < k)) → q n' v' = true → a < ab T v' ∨ (a = ab T v' ∧ b ≤ n'))
theorem apart_n {v : Nat} (hT : T ≤ 180) (hv : v ≤ T) : F_Mod_apart (nI v) (nI T - nI v) = nI (ab T v) := by
  unfold F_Mod_apart ab
  rw [nsb hv]
  by_cases h : T - v < v
  · rw [if_pos (lT h (by omega)), nsb (by omega), if_neg (by omega)]
    congr 1
    omega
  · rw [if_neg (lF (by omega) (by omega)), nsb (by omega), if_pos (by omega)]
    congr 1
    omega
theorem l_sq6 (hT : T ≤ 180) (hS : MS N q) (hv : ∀ n v, v < 181 → q n v = true → v ≤ T) {a0 : Nat} (ha0 : a0 < 2000000000) (hlt0 : ∀ n v, v < 181 → q n v = true → ab T v < a0) {j : Nat} (hj1 : 1 ≤ j) (hj : j ≤ 20) : ∀ (m k n a b : Nat), k + m = 181 → m < n → MI q T a0 j k a b →
    ∃ a' b', L_Mod_squires_6 z (nI T) (nI j) N n (nI a) (nI b) (nI k) = some (nI a', nI b') ∧ MI q T a0 j 181 a' b' := by
  intro m
  induction m with
  | zero =>
    intro k n a b hk hn hI
    obtain ⟨n, rfl⟩ : ∃ k, n = k + 1 := ⟨n - 1, by omega⟩
    have ek : k = 181 := by omega
    subst ek
    rw [L_Mod_squires_6, if_neg (lF (by omega) (by omega))]
    exact ⟨a, b, rfl, hI⟩
  | succ m ih =>
    intro k n a b hk hn hI
    obtain ⟨n, rfl⟩ : ∃ k, n = k + 1 := ⟨n - 1, by omega⟩
    have hk181 : k < 181 := by omega
    have habk : ab T k ≤ 362 := by unfold ab; split <;> omega
    have ha : a < 2000000000 := by
      rcases hI with ⟨h, -⟩ | ⟨⟨v, h1, -, h⟩, -⟩
      · omega
      · have : ab T v ≤ 362 := by unfold ab; split <;> omega
        omega
    rw [L_Mod_squires_6, if_pos (lT (by omega) (by omega)), nmul, nadd, ra_ok (by omega) (by omega), ob1_ok, ob1_ok, hS j k hj1 hj hk181, nadd]
    cases hq : q j k with
    | false =>
      rw [show decide (b2 false = nI 0) = true from decide_eq_true rfl, if_pos rfl, ob1_ok, if_pos rfl]
      refine ih (k + 1) n a b (by omega) (by omega) ?_
      rcases hI with ⟨h1, h2, h3⟩ | ⟨h1, h2, h3⟩
      · refine Or.inl ⟨h1, h2, fun n' v' hv' hc => ?_⟩
        by_cases e : n' = j ∧ v' = k
        · rw [e.1, e.2]; exact hq
        · exact h3 n' v' hv' (by omega)
      · refine Or.inr ⟨h1, h2, fun n' v' hv' hc hq' => ?_⟩
        by_cases e : n' = j ∧ v' = k
        · rw [e.1, e.2, hq] at hq'; cases hq'
        · exact h3 n' v' hv' (by omega) hq'
    | true =>
      have hkT := hv j k hk181 hq
      rw [show decide (b2 true = nI 0) = false from decide_eq_false (show ¬ nI 1 = nI 0 by decide), if_neg Bool.false_ne_true, apart_n hT hkT]
      by_cases hlt : ab T k < a
      · rw [decide_eq_false (fun h => h (lT hlt (by omega))), ob1_ok, if_neg Bool.false_ne_true]
        refine ih (k + 1) n (ab T k) j (by omega) (by omega) (Or.inr ⟨⟨k, hk181, hq, rfl⟩, Nat.le_refl _, fun n' v' hv' hc hq' => ?_⟩)
        by_cases e : n' = j ∧ v' = k
        · rw [e.1, e.2]; exact Or.inr ⟨rfl, Nat.le_refl _⟩
        · rcases hI with ⟨h1, h2, h3⟩ | ⟨h1, h2, h3⟩
          · rw [h3 n' v' hv' (by omega)] at hq'; cases hq'
          · have := h3 n' v' hv' (by omega) hq'
            omega
      · rw [decide_eq_true (lF (by omega) (by omega)), ob1_ok, if_pos rfl]
        refine ih (k + 1) n a b (by omega) (by omega) ?_
        rcases hI with ⟨h1, h2, h3⟩ | ⟨h1, h2, h3⟩
        · have := hlt0 j k hk181 hq
          omega
        · refine Or.inr ⟨h1, h2, fun n' v' hv' hc hq' => ?_⟩
          by_cases e : n' = j ∧ v' = k
          · rw [e.1, e.2]; omega
          · exact h3 n' v' hv' (by omega) hq'
theorem l_sq5 (hz : 1000 ≤ z) (hT : T ≤ 180) (hS : MS N q) (hv : ∀ n v, v < 181 → q n v = true → v ≤ T) {a0 : Nat} (ha0 : a0 < 2000000000) (hlt0 : ∀ n v, v < 181 → q n v = true → ab T v < a0) : ∀ (m k n a b : Nat), k + m = 21 → 1 ≤ k → m < n → MI q T a0 k 0 a b →
    ∃ a' b', L_Mod_squires_5 z (nI T) N n (nI a) (nI b) (nI k) = some (nI a', nI b') ∧ MI q T a0 21 0 a' b' := by
  intro m
  induction m with
  | zero =>
    intro k n a b hk h1 hn hI
    obtain ⟨n, rfl⟩ : ∃ k, n = k + 1 := ⟨n - 1, by omega⟩
    have ek : k = 21 := by omega
    subst ek
    rw [L_Mod_squires_5, if_neg (lF (by omega) (by omega))]
    exact ⟨a, b, rfl, hI⟩
  | succ m ih =>
    intro k n a b hk h1 hn hI
    obtain ⟨n, rfl⟩ : ∃ k, n = k + 1 := ⟨n - 1, by omega⟩
    obtain ⟨a1, b1, g1, g2⟩ := l_sq6 (z := z) hT hS hv ha0 hlt0 h1 (show k ≤ 20 by omega) 181 0 z a b (by omega) (by omega) hI
    rw [L_Mod_squires_5, if_pos (lT (by omega) (by omega)), g1, ob2_ok, nadd]
    refine ih (k + 1) n a1 b1 (by omega) (by omega) (by omega) ?_
    rcases g2 with ⟨e1, e2, e3⟩ | ⟨e1, e2, e3⟩
    · exact Or.inl ⟨e1, e2, fun n' v' hv' hc => e3 n' v' hv' (by omega)⟩
    · exact Or.inr ⟨e1, by omega, fun n' v' hv' hc hq' => e3 n' v' hv' (by omega) hq'⟩
theorem b_squires (hz : 4000 ≤ z) (hf : wf c W) (hc : c < 2147483648) (hC : CW false 1 M p W) (hR : RM N W) (what : Int32) : ∃ v M' N', F_Rec_squires z what M = some (v, M') ∧ F_Mod_squires z what N = some (v, N') ∧ Fr [141] M M' ∧ Fr [341] N N' := by
  unfold F_Rec_squires F_Mod_squires
  rw [isIn_eq]
  by_cases hw : F_Rec_within what (nI 0) (nI 1) = true
  · obtain ⟨M1, dM⟩ : ∃ M1, M1 = fil M 141 0 181 (fun _ => nI 1000) := ⟨_, rfl⟩
    obtain ⟨N1, dN⟩ : ∃ N1, N1 = fil N 341 0 3801 (fun _ => nI 0) := ⟨_, rfl⟩
    have fM : Fr [141] M M1 := by rw [dM]; exact Fr_upR (Fr_rf _ _) (by simp)
    have fN : Fr [341] N N1 := by rw [dN]; exact Fr_upR (Fr_rf _ _) (by simp)
    obtain ⟨T, fi, f, q, M2, N2, a1, a2, a3, a4, a5, a6, a7, a8⟩ := l_wasps (z := z) (p := p) (by omega) hf hc 60 0 z z 0 (nI 0) (fun _ => 1000) (fun _ _ => false) M1 N1 (by omega) (by omega) (by omega)
      (CW_congr hC (fun c' h' => fM c' (by unfold inW at h'; simp only [List.mem_cons, List.not_mem_nil, or_false]; omega))) (RM_congr (fN 313 (by simp)) (fN 316 (by simp)) hR) (fun v hv => by rw [dM, fil_at, if_pos ⟨Nat.zero_le _, hv⟩]) (fun n v h1 h2 h3 => by rw [dN, fil_at, if_pos (by omega)]; rfl)
      ⟨fun _ _ => Nat.le_refl _, fun v _ h => absurd h (show ¬ 1000 < 1000 by omega), fun n v _ h => absurd h Bool.false_ne_true, Nat.zero_le _, fun _ _ _ => rfl, fun h => by omega⟩ ⟨fun _ => rfl, fun _ => rfl⟩
    have hT9 := a5.2.2.2.1
    have hvT : ∀ n v, v < 181 → q n v = true → v ≤ T := fun n v h1 h2 => (a5.2.2.1 n v h1 h2).2.2.2
    have hF := Fr_tr fM a7
    have hG := Fr_tr fN a8
    have wz : F_Asker_weighWasps z 1 M = some (nI T, M2) := by
      unfold F_Asker_weighWasps
      rw [fill_ok (by omega) (by omega), ob1_ok, ← dM, a1, ob2_ok]
    unfold F_Asker_balance
    rw [if_pos hw, if_neg (show ¬ ¬ F_Rec_within what (nI 0) (nI 1) = true from fun h => h hw), wz, ob2_ok, l_sq1 3801 0 z N (by omega) (by omega), ob1_ok, ← dN, a2, ob3_ok, ob1_ok]
    by_cases hT0 : T = 0
    · subst hT0
      have hq0 := a5.2.2.2.2.1 rfl
      have e1 : L_Asker_balance_1 z 1 (nI 0) M2 z (nI 1000) (nI 0) (nI 0) = some (nI 1000, nI 0) := by
        obtain ⟨z', rfl⟩ : ∃ k, z = k + 1 := ⟨z - 1, by omega⟩
        rw [L_Asker_balance_1, if_neg (fun h => lF (Nat.le_refl 0) (by omega) h.2)]
      obtain ⟨a', b', g1, g2⟩ := l_sq5 (z := z) (a0 := 0) (T := 0) (by omega) (by omega) a4 hvT (by omega) (fun n v _ h => by rw [hq0 n v] at h; cases h) 20 1 z 0 0 (by omega) (by omega) (by omega) (Or.inl ⟨rfl, rfl, fun n' v' _ _ => hq0 n' v'⟩)
      have h0 : a' = 0 ∧ b' = 0 := by
        rcases g2 with ⟨h1, h2, -⟩ | ⟨⟨v, -, h, -⟩, -⟩
        · exact ⟨h1, h2⟩
        · rw [hq0 b' v] at h; cases h
      rw [e1, ob2_ok, if_pos rfl, ob2_ok, ob2_ok, if_pos (a6.mpr rfl), g1, ob2_ok, h0.1, h0.2]
      refine ⟨nI 0, M2, N2, rfl, ?_, hF, hG⟩
      split <;> rfl
    · have hne : ¬ nI T = nI 0 := eF hT0 (by omega) (by omega)
      have habT : ∀ v, v < 181 → ab T v ≤ 362 := fun v hv => by unfold ab; split <;> omega
      obtain ⟨a1', b1', e1, e2⟩ := l_bal (z := z) (M := M2) (f := f) (T := T) (by omega) (by omega) a3 a5.1 (T + 1) 0 z 1000 0 (by omega) (by omega) (Or.inl ⟨rfl, rfl, fun v hv => absurd hv (Nat.not_lt_zero v)⟩)
      obtain ⟨a', b', g1, g2⟩ := l_sq5 (z := z) (a0 := 100000000) (T := T) (by omega) (by omega) a4 hvT (by omega) (fun n v h _ => by have := habT v h; omega) 20 1 z 100000000 0 (by omega) (by omega) (by omega) (Or.inl ⟨rfl, rfl, fun n' v' hv' hc => by
        cases h : q n' v' with
        | false => rfl
        | true =>
          have := (a5.2.2.1 n' v' hv' h).2.1
          omega⟩)
      obtain ⟨n0, v0, hv0, hq0⟩ := a5.2.2.2.2.2 (by omega)
      have B1 : BEST q T a1' b1' := by
        rcases e2 with ⟨-, -, h3⟩ | ⟨v, h1, h2, h3, h4, h5⟩
        · have x1 := (a5.2.2.1 n0 v0 hv0 hq0)
          have x2 := h3 v0 (by omega)
          omega
        · refine ⟨⟨v, by omega, by rw [h3]; exact a5.2.1 v (by omega) h2, h4.symm⟩, fun n v' hv' hq' => ?_⟩
          have x1 := (a5.2.2.1 n v' hv' hq')
          have x2 := h5 v' (by omega) (by omega)
          omega
      have B2 : BEST q T a' b' := by
        rcases g2 with ⟨-, -, h3⟩ | ⟨h1, -, h3⟩
        · have x1 := (a5.2.2.1 n0 v0 hv0 hq0)
          rw [h3 n0 v0 hv0 (by omega)] at hq0
          cases hq0
        · refine ⟨h1, fun n v' hv' hq' => ?_⟩
          have x1 := (a5.2.2.1 n v' hv' hq')
          exact h3 n v' hv' (by omega) hq'
      obtain ⟨ea, eb⟩ := BEST_one B1 B2
      have hfi : ¬ fi = nI 0 := fun h => hT0 (a6.mp h)
      rw [e1, ob2_ok, if_neg hne, ob2_ok, ob2_ok, if_neg hfi, g1, ob2_ok, ea, eb]
      exact ⟨_, M2, N2, rfl, rfl, hF, hG⟩
  · rw [if_neg hw, if_pos hw, ob2_ok]
    exact ⟨_, M, N, rfl, rfl, Fr_rf _ _, Fr_rf _ _⟩
end S79
