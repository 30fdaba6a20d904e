/-! ===== the order of strips, the whole of it ===== -/
section S72
variable {z : Nat} {M N : mM} {F : Rw} {T : Tx} {A : Nat → Nat}
theorem l_firsts (hE : ∀ s, s < 12 → M 144 s = nI (A s)) (hA : ∀ s, s < 12 → A s < 4096) : ∀ (m k n : Nat), k + m = 12 → m < n → L_Layers_firsts_1 z M n (nI (bld (fun s => decide (A s = 0)) k)) (nI k) = some (nI (bld (fun s => decide (A s = 0)) 12)) := by
  intro m
  induction m with
  | zero =>
    intro k n hk hn
    obtain ⟨n, rfl⟩ : ∃ k, n = k + 1 := ⟨n - 1, by omega⟩
    have ek : k = 12 := by omega
    subst ek
    rw [L_Layers_firsts_1, if_neg (lF (by omega) (by omega))]
  | succ m ih =>
    intro k n hk hn
    obtain ⟨n, rfl⟩ : ∃ k, n = k + 1 := ⟨n - 1, by omega⟩
    have hlt := hA k (by omega)
    have hb := (bld_next (q := fun s => decide (A s = 0)) (show k < 12 by omega)).2
    have ed : decide (nI (A k) = nI 0) = decide (A k = 0) := decide_eq_decide.mpr (nI_inj (by omega) (by omega))
    have e : (if decide (A k = 0) = true then some (jshl (nI 1) (nI k)) else some (nI 0)) = some (if decide (A k = 0) = true then jshl (nI 1) (nI k) else nI 0) := by split <;> rfl
    rw [L_Layers_firsts_1, if_pos (lT (by omega) (by omega)), ra_ok (by omega) (by omega), ob1_ok, ob1_ok, hE k (by omega), ed, e, ob1_ok, hb, nadd]
    exact ih (k + 1) n (by omega) (by omega)
theorem and_pow {a k : Nat} (ha : a < 4096) (hk : k < 12) : a &&& 2 ^ k = if a.testBit k = true then 2 ^ k else 0 := by
  have h12 : 2 ^ k < 2 ^ 12 := Nat.pow_lt_pow_right (by omega) hk
  refine mask_eq (Nat.and_lt_two_pow (n := 12) a h12) ?_ (fun i hi => ?_)
  · split <;> omega
  · rw [Nat.testBit_and]
    by_cases e : k = i
    · subst e
      rw [Nat.testBit_two_pow_self, Bool.and_true]
      cases h : a.testBit k with
      | true => rw [if_pos rfl, Nat.testBit_two_pow_self]
      | false => rw [if_neg Bool.false_ne_true, Nat.zero_testBit]
    · rw [Nat.testBit_two_pow_of_ne e, Bool.and_false]
      split
      · exact (Nat.testBit_two_pow_of_ne e).symm
      · exact (Nat.zero_testBit i).symm
theorem l_rounds (hE : ∀ s, s < 12 → M 145 s = nI (A s)) (hA : ∀ s, s < 12 → A s < 4096) : ∀ (m k n : Nat), k + m = 12 → m < n → L_Layers_rounds_1 z M n (nI (bld (fun s => (A s).testBit s) k)) (nI k) = some (nI (bld (fun s => (A s).testBit s) 12)) := by
  intro m
  induction m with
  | zero =>
    intro k n hk hn
    obtain ⟨n, rfl⟩ : ∃ k, n = k + 1 := ⟨n - 1, by omega⟩
    have ek : k = 12 := by omega
    subst ek
    rw [L_Layers_rounds_1, if_neg (lF (by omega) (by omega))]
  | succ m ih =>
    intro k n hk hn
    obtain ⟨n, rfl⟩ : ∃ k, n = k + 1 := ⟨n - 1, by omega⟩
    rw [L_Layers_rounds_1, if_pos (lT (by omega) (by omega)), ra_ok (by omega) (by omega), ob1_ok, ob1_ok, hE k (by omega), shl_n k (by omega), and_n, and_pow (hA k (by omega)) (by omega), or_n, nadd]
    exact ih (k + 1) n (by omega) (by omega)
theorem cw_rounds (hz : 100 ≤ z) (hE : ∀ s, s < 12 → M 145 s = nI (A s)) (hA : ∀ s, s < 12 → A s < 4096) : F_Layers_rounds z M = some (nI (bld (fun s => (A s).testBit s) 12)) := by
  unfold F_Layers_rounds
  have h : L_Layers_rounds_1 z M z (nI 0) (nI 0) = some (nI (bld (fun s => (A s).testBit s) 12)) := l_rounds hE hA 12 0 z (by omega) (by omega)
  rw [h, ob1_ok]
def covA (A : Nat → Nat) : Nat → Nat
  | 0 => 0
  | n + 1 => covA A n ||| A n
theorem cov_lt (hA : ∀ s, s < 12 → A s < 4096) : ∀ n, n ≤ 12 → covA A n < 4096 := by
  intro n
  induction n with
  | zero => intro _; show 0 < 4096; omega
  | succ n ih => intro h; exact Nat.or_lt_two_pow (n := 12) (ih (by omega)) (hA n (by omega))
theorem cov_bit {t : Nat} : ∀ n, (covA A n).testBit t = false ↔ ∀ k, k < n → (A k).testBit t = false := by
  intro n
  induction n with
  | zero =>
    constructor
    · intro _ k hk; omega
    · intro _; exact Nat.zero_testBit t
  | succ n ih =>
    rw [covA, Nat.testBit_or, Bool.or_eq_false_iff, ih]
    constructor
    · intro h k hk
      by_cases e : k = n
      · rw [e]; exact h.2
      · exact h.1 k (by omega)
    · intro h
      exact ⟨fun k hk => h k (by omega), h n (by omega)⟩
theorem l_tops (hE : ∀ s, s < 12 → M 144 s = nI (A s)) : ∀ (m k n : Nat), k + m = 12 → m < n → L_Layers_tops_1 z M n (nI (covA A k)) (nI k) = some (nI (covA A 12)) := by
  intro m
  induction m with
  | zero =>
    intro k n hk hn
    obtain ⟨n, rfl⟩ : ∃ k, n = k + 1 := ⟨n - 1, by omega⟩
    have ek : k = 12 := by omega
    subst ek
    rw [L_Layers_tops_1, if_neg (lF (by omega) (by omega))]
  | succ m ih =>
    intro k n hk hn
    obtain ⟨n, rfl⟩ : ∃ k, n = k + 1 := ⟨n - 1, by omega⟩
    rw [L_Layers_tops_1, if_pos (lT (by omega) (by omega)), ra_ok (by omega) (by omega), ob1_ok, hE k (by omega), or_n, nadd]
    exact ih (k + 1) n (by omega) (by omega)
theorem l_above (hE : ∀ s, s < 12 → M 145 s = nI (A s)) (hA : ∀ s, s < 12 → A s < 4096) {s : Nat} (hs : s < 12) : ∀ (m k n : Nat), k + m = 12 → m < n → L_Layers_above_1 z (nI s) M n (nI (bld (fun k => (A k).testBit s) k)) (nI k) = some (nI (bld (fun k => (A k).testBit s) 12)) := by
  intro m
  induction m with
  | zero =>
    intro k n hk hn
    obtain ⟨n, rfl⟩ : ∃ k, n = k + 1 := ⟨n - 1, by omega⟩
    have ek : k = 12 := by omega
    subst ek
    rw [L_Layers_above_1, if_neg (lF (by omega) (by omega))]
  | succ m ih =>
    intro k n hk hn
    obtain ⟨n, rfl⟩ : ∃ k, n = k + 1 := ⟨n - 1, by omega⟩
    have hlt := hA k (by omega)
    have hb := (bld_next (q := fun k => (A k).testBit s) (show k < 12 by omega)).2
    have ed : decide (jshr (nI (A k)) (nI s) &&& nI 1 = nI 1) = (A k).testBit s := has_n (by omega) hs
    have e : (if (A k).testBit s = true then some (jshl (nI 1) (nI k)) else some (nI 0)) = some (if (A k).testBit s = true then jshl (nI 1) (nI k) else nI 0) := by split <;> rfl
    rw [L_Layers_above_1, if_pos (lT (by omega) (by omega)), ra_ok (by omega) (by omega), ob1_ok, ob1_ok, hE k (by omega), ed, e, ob1_ok, hb, nadd]
    exact ih (k + 1) n (by omega) (by omega)
/-- the model's firsts and tops -/
theorem l_morder (hz : 100 ≤ z) (hA : ∀ s, s < 12 → A s < 4096) (hN : ∀ s, s < 12 → N 329 s = nI (A s)) {what : Int32} {q : Nat → Bool} (hq : ∀ s, s < 12 → q s = if what = nI 0 then decide (A s = 0) else decide (bld (fun k => (wY A 12 k).testBit s) 12 = 0)) : ∀ (m k n : Nat), k + m = 12 → m < n → L_Mod_order_1 z what N n (nI (bld q k)) (nI k) = some (nI (bld q 12)) := by
  intro m
  induction m with
  | zero =>
    intro k n hk hn
    obtain ⟨n, rfl⟩ : ∃ k, n = k + 1 := ⟨n - 1, by omega⟩
    have ek : k = 12 := by omega
    subst ek
    rw [L_Mod_order_1, if_neg (lF (by omega) (by omega))]
  | succ m ih =>
    intro k n hk hn
    obtain ⟨n, rfl⟩ : ∃ k, n = k + 1 := ⟨n - 1, by omega⟩
    have hk12 : k < 12 := by omega
    have hlt := hA k hk12
    have hu : bld (fun j => (wY A 12 j).testBit k) 12 < 2 ^ 12 := bld_lt 12
    have e0 : (if what = nI 0 then ob1 (ra N 329 24 (nI k)) fun v33 => some (decide (v33 = nI 0)) else ob1 (F_Mod_underOf z (nI k) N) fun v30 => some (decide (v30 = nI 0))) = some (q k) := by
      rw [hq k hk12]
      by_cases h : what = nI 0
      · rw [if_pos h, if_pos h, ra_ok (by omega) (by omega), ob1_ok, hN k hk12]
        exact congrArg some (decide_eq_decide.mpr (nI_inj (by omega) (by omega)))
      · rw [if_neg h, if_neg h, mm_under hz hA hN hk12, ob1_ok]
        exact congrArg some (decide_eq_decide.mpr (nI_inj (by omega) (by omega)))
    have hb := (bld_next (q := q) hk12).1
    have e : (if q k = true then some (nI (bld q k) ||| jshl (nI 1) (nI k)) else some (nI (bld q k))) = some (nI (bld q (k + 1))) := by
      rw [← hb]
      split <;> rfl
    rw [L_Mod_order_1, if_pos (lT (by omega) (by omega)), e0, ob1_ok, e, ob1_ok, nadd]
    exact ih (k + 1) n (by omega) (by omega)
theorem b_order (hz : 1000 ≤ z) (hT : okT T) (hCT : CT 28 M T) (hMT : MT N T) (what : Int32) : ∃ v M', F_Rec_order z what M = some (v, M') ∧ F_Mod_order z what N = some v ∧ Fr [144, 145] M M' := by
  obtain ⟨F, eF'⟩ : ∃ F, F = tStr T := ⟨_, rfl⟩
  have h16 : F.1 ≤ 16 := eF' ▸ hT.1.1
  have hb : ∀ j, j < F.1 → bt (F.2 j 0) 0 11 ∧ bt (F.2 j 1) 0 11 := eF' ▸ hT.1.2
  have hc : M 38 3 = nI F.1 ∧ ∀ j k, j < F.1 → k < 2 → M 39 (j * 5 + k) = F.2 j k := eF' ▸ hCT.1
  have hm : N 312 34 = nI F.1 ∧ ∀ s, s < 12 → N 329 s = sMask F.2 F.1 s := eF' ▸ hMT.1
  obtain ⟨A, eA⟩ : ∃ A, A = mSA F := ⟨_, rfl⟩
  have hA : ∀ s, s < 12 → A s < 4096 := fun s _ => eA ▸ (mSA_ok hb s).1
  have hN : ∀ s, s < 12 → N 329 s = nI (A s) := fun s hs => by rw [hm.2 s hs, eA]; exact (mSA_ok hb s).2
  obtain ⟨M', a1, a2, a3, a4⟩ := cw_learn (M := M) hz h16 hb hc.1 hc.2
  rw [← eA] at a3 a4
  have hY : ∀ s, s < 12 → wY A 12 s < 4096 := fun s hs => wY_lt hA 12 s (by omega) hs
  unfold F_Rec_order F_Mod_order
  rw [a1, ob1_ok, isIn_eq, isIn_eq]
  have ne : ∀ {a b : Nat}, a < 100 → b < 100 → a ≠ b → ¬ nI a = nI b := fun h1 h2 h => eF h (by omega) (by omega)
  by_cases h10 : F_Rec_within what (nI 10) (nI 21) = true
  · obtain ⟨K, k1, k2, rfl⟩ := rng_n (by omega) (by omega) (of_decide_eq_true h10)
    have h30 : ¬ F_Rec_within (nI K) (nI 30) (nI 41) = true := fun h => (of_decide_eq_true h).1 (lT (by omega) (by omega))
    obtain ⟨s, hs, rfl⟩ : ∃ s, s < 12 ∧ K = s + 10 := ⟨K - 10, by omega, by omega⟩
    have hRlt : bld (fun s => (wY A 12 s).testBit s) 12 < 2 ^ 12 := bld_lt 12
    have h12 : 2 ^ s < 2 ^ 12 := Nat.pow_lt_pow_right (by omega) hs
    have eq0 : (wY A 12 s &&& bld (fun s => (wY A 12 s).testBit s) 12 = 0) ↔ (bld (fun s => (wY A 12 s).testBit s) 12 &&& (wY A 12 s ||| 2 ^ s) = 0) := by
      have l1 : wY A 12 s &&& bld (fun s => (wY A 12 s).testBit s) 12 < 2 ^ 12 := Nat.and_lt_two_pow _ hRlt
      have l2 : bld (fun s => (wY A 12 s).testBit s) 12 &&& (wY A 12 s ||| 2 ^ s) < 2 ^ 12 := Nat.and_lt_two_pow _ (Nat.or_lt_two_pow (hY s hs) h12)
      rw [mask_0 l1, mask_0 l2]
      constructor
      · intro h k hk
        have h1 := h k hk
        rw [Nat.testBit_and] at h1 ⊢
        rw [Nat.testBit_or]
        by_cases e : s = k
        · subst e
          rw [bld_bit, decide_eq_true hk, Bool.true_and, Bool.and_self] at h1
          rw [bld_bit, h1, Bool.and_false, Bool.false_and]
        · rw [Nat.testBit_two_pow_of_ne e, Bool.or_false, Bool.and_comm]
          exact h1
      · intro h k hk
        have h1 := h k hk
        rw [Nat.testBit_and, Nat.testBit_or] at h1
        rw [Nat.testBit_and]
        cases e1 : (wY A 12 s).testBit k with
        | false => rfl
        | true =>
          rw [e1, Bool.true_or, Bool.and_true] at h1
          rw [h1, Bool.and_false]
    have er := cw_rounds (z := z) (by omega) a4 hY
    have hYs := hY s hs
    rw [if_pos h10, if_neg (fun h => h.elim (ne (by omega) (by omega) (by omega)) (ne (by omega) (by omega) (by omega))), if_neg (ne (by omega) (by omega) (by omega)), if_neg h30, if_neg (fun h => h h10), nsb (by omega), Nat.add_sub_cancel, mm_ahead (by omega) hA hN hs, ob1_ok, mm_round (by omega) hA hN, ob1_ok, ob1_ok, shl_n s (by omega), or_n, and_n]
    unfold F_Layers_earliest
    rw [if_neg (fun h => h.elim (lF (Nat.zero_le _) (by omega)) (fun h => h (lT hs (by omega)))), ra_ok hs (by omega), ob1_ok, er, ob1_ok, ob1_ok, a4 s hs, and_n]
    by_cases h0 : wY A 12 s &&& bld (fun s => (wY A 12 s).testBit s) 12 = 0
    · have h0' := eq0.mp h0
      rw [h0, h0', decide_eq_false (fun h => h rfl), if_neg Bool.false_ne_true, if_neg Bool.false_ne_true, ob1_ok, bitCount_ok, ob1_ok, ob1_ok, ones_ok (by omega) (by omega), ob1_ok, ob1_ok, (pc_ok (by omega)).1]
      exact ⟨_, M', rfl, rfl, a2⟩
    · have h0' : ¬ bld (fun s => (wY A 12 s).testBit s) 12 &&& (wY A 12 s ||| 2 ^ s) = 0 := fun h => h0 (eq0.mpr h)
      have l1 : wY A 12 s &&& bld (fun s => (wY A 12 s).testBit s) 12 < 2 ^ 12 := Nat.and_lt_two_pow _ hRlt
      have l2 : bld (fun s => (wY A 12 s).testBit s) 12 &&& (wY A 12 s ||| 2 ^ s) < 2 ^ 12 := Nat.and_lt_two_pow _ (Nat.or_lt_two_pow (hY s hs) h12)
      rw [decide_eq_true (eF h0 (by omega) (by omega)), decide_eq_true (eF h0' (by omega) (by omega)), if_pos rfl, if_pos rfl, ob1_ok, ob1_ok]
      exact ⟨_, M', rfl, rfl, a2⟩
  · rw [if_neg h10]
    by_cases h30 : F_Rec_within what (nI 30) (nI 41) = true
    · obtain ⟨K, k1, k2, rfl⟩ := rng_n (by omega) (by omega) (of_decide_eq_true h30)
      obtain ⟨s, hs, rfl⟩ : ∃ s, s < 12 ∧ K = s + 30 := ⟨K - 30, by omega, by omega⟩
      have hb0 : L_Layers_above_1 z (nI s) M' z (nI 0) (nI 0) = some (nI (bld (fun k => (wY A 12 k).testBit s) 12)) := l_above a4 hY hs 12 0 z (by omega) (by omega)
      unfold F_Layers_above
      rw [if_pos h30, if_neg (fun h => h.elim (ne (by omega) (by omega) (by omega)) (ne (by omega) (by omega) (by omega))), if_neg (ne (by omega) (by omega) (by omega)), nsb (by omega), Nat.add_sub_cancel, if_pos h30, hb0, ob1_ok, ob1_ok, mm_under (by omega) hA hN hs, ob1_ok]
      exact ⟨_, M', rfl, rfl, a2⟩
    · rw [if_neg h30]
      by_cases w0 : what = nI 0
      · have hf0 : L_Layers_firsts_1 z M' z (nI 0) (nI 0) = some (nI (bld (fun s => decide (A s = 0)) 12)) := l_firsts a3 hA 12 0 z (by omega) (by omega)
        have hm0 : L_Mod_order_1 z what N z (nI 0) (nI 0) = some (nI (bld (fun s => decide (A s = 0)) 12)) := l_morder (by omega) hA hN (fun s _ => by rw [if_pos w0]) 12 0 z (by omega) (by omega)
        unfold F_Layers_firsts
        rw [if_pos w0, if_pos (Or.inl w0), hf0, hm0, ob1_ok, ob1_ok]
        exact ⟨_, M', rfl, rfl, a2⟩
      · rw [if_neg w0]
        by_cases w1 : what = nI 1
        · have w2 : ¬ what = nI 2 := fun h => ne (by omega) (by omega) (by omega) (w1.symm.trans h)
          rw [if_pos w1, if_neg (fun h => h.elim w0 w2), if_pos w1, cw_rounds (z := z) (by omega) a4 hY, mm_round (by omega) hA hN, ob1_ok, ob1_ok]
          exact ⟨_, M', rfl, rfl, a2⟩
        · rw [if_neg w1]
          by_cases w2 : what = nI 2
          · have ht0 : L_Layers_tops_1 z M' z (nI 0) (nI 0) = some (nI (covA A 12)) := l_tops a3 12 0 z (by omega) (by omega)
            have hm0 : L_Mod_order_1 z what N z (nI 0) (nI 0) = some (nI (bld (fun s => decide (bld (fun k => (wY A 12 k).testBit s) 12 = 0)) 12)) := l_morder (by omega) hA hN (fun s _ => by rw [if_neg w0]) 12 0 z (by omega) (by omega)
            have hcl := cov_lt hA 12 (Nat.le_refl _)
            have ee : 4095 ^^^ covA A 12 = bld (fun s => decide (bld (fun k => (wY A 12 k).testBit s) 12 = 0)) 12 := by
              refine mask_eq (Nat.xor_lt_two_pow (n := 12) (by omega) hcl) (bld_lt 12) (fun t ht => ?_)
              rw [Nat.testBit_xor, full_bit ht, bld_bit, decide_eq_true ht, Bool.true_and]
              have e1 := cov_bit (A := A) (t := t) 12
              have e2 := wY_none hA ht
              have e3 : bld (fun k => (wY A 12 k).testBit t) 12 = 0 ↔ ∀ k, k < 12 → (wY A 12 k).testBit t = false := by
                rw [mask_0 (bld_lt 12)]
                constructor
                · intro h k hk
                  have := h k hk
                  rwa [bld_bit, decide_eq_true hk, Bool.true_and] at this
                · intro h k hk
                  rw [bld_bit, h k hk, Bool.and_false]
              cases e : (covA A 12).testBit t with
              | false => rw [decide_eq_true (e3.mpr (e2.mpr (e1.mp e)))]; rfl
              | true =>
                rw [decide_eq_false (fun h => by rw [e1.mpr (e2.mp (e3.mp h))] at e; cases e)]
                rfl
            unfold F_Layers_tops
            rw [if_pos w2, if_pos (Or.inr w2), ht0, hm0, ob1_ok, ob1_ok, ob1_ok, not_n hcl, ee]
            exact ⟨_, M', rfl, rfl, a2⟩
          · rw [if_neg w2, if_neg (fun h => h.elim w0 w2), if_neg w1, if_neg h30, if_pos h10]
            exact ⟨_, M', rfl, rfl, a2⟩
end S72
