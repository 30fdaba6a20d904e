/-! ===== the order of strips: both ways ===== -/
section S71
variable {z : Nat} {M N : mM} {F : Rw} {T : Tx} {A : Nat → Nat}
theorem sMask_n {S : Nat → Nat → Int32} : ∀ n, (∀ j, j < n → bt (S j 0) 0 11 ∧ bt (S j 1) 0 11) → ∀ s, ∃ a, a < 4096 ∧ sMask S n s = nI a := by
  intro n
  induction n with
  | zero => intro _ s; exact ⟨0, by omega, rfl⟩
  | succ n ih =>
    intro h s
    obtain ⟨⟨a, -, ha, ea⟩, b, -, hb, eb⟩ := h n (by omega)
    rw [sMask, ea, eb, nI_clamp (by omega), shl_n b (by omega)]
    by_cases e : s = a
    · subst e
      obtain ⟨x, hx, ex⟩ := ih (fun j hj => h j (by omega)) s
      have h12 : 2 ^ b < 2 ^ 12 := Nat.pow_lt_pow_right (by omega) (by omega)
      exact ⟨x ||| 2 ^ b, Nat.or_lt_two_pow (n := 12) hx h12, by rw [upd_same, ex, or_n]⟩
    · rw [upd_ne _ _ e]
      exact ih (fun j hj => h j (by omega)) s
def mSA (F : Rw) (s : Nat) : Nat := (sMask F.2 F.1 s).toNatClampNeg
theorem mSA_ok (h : ∀ j, j < F.1 → bt (F.2 j 0) 0 11 ∧ bt (F.2 j 1) 0 11) (s : Nat) : mSA F s < 4096 ∧ sMask F.2 F.1 s = nI (mSA F s) := by
  obtain ⟨a, h1, h2⟩ := sMask_n F.1 h s
  unfold mSA
  rw [h2, nI_clamp (by omega)]
  exact ⟨h1, rfl⟩
theorem l_learn1 (h16 : F.1 ≤ 16) (hb : ∀ j, j < F.1 → bt (F.2 j 0) 0 11 ∧ bt (F.2 j 1) 0 11) : ∀ (m k n : Nat) (M : mM), k + m = F.1 → m < n → M 38 3 = nI F.1 → (∀ j q, j < F.1 → q < 2 → M 39 (j * 5 + q) = F.2 j q) → (∀ s, s < 12 → M 144 s = sMask F.2 k s) →
    ∃ M', L_Layers_learn_1 z 38 5 16 n (nI k) M = some M' ∧ Fr [144] M M' ∧ ∀ s, s < 12 → M' 144 s = sMask F.2 F.1 s := by
  intro m
  induction m with
  | zero =>
    intro k n M hk hn h3 hF hE
    obtain ⟨n, rfl⟩ : ∃ k, n = k + 1 := ⟨n - 1, by omega⟩
    have ek : k = F.1 := by omega
    subst ek
    rw [L_Layers_learn_1, h3, if_neg (lF (by omega) (by omega))]
    exact ⟨M, rfl, Fr_rf _ _, hE⟩
  | succ m ih =>
    intro k n M hk hn h3 hF hE
    obtain ⟨n, rfl⟩ : ∃ k, n = k + 1 := ⟨n - 1, by omega⟩
    obtain ⟨⟨a, -, ha, ea⟩, b, -, hb', eb⟩ := hb k (by omega)
    have g0 : F_Rows_get 38 5 16 (nI k) (nI 0) M = some (nI a) := by
      rw [get_ok (n := F.1) (k := 0) h3 h16 (by omega) (by omega) (by omega) (by omega), ← ea]
      exact congrArg some (hF k 0 (by omega) (by omega))
    have g1 : F_Rows_get 38 5 16 (nI k) (nI 1) M = some (nI b) := by
      rw [get_ok (n := F.1) (k := 1) h3 h16 (by omega) (by omega) (by omega) (by omega), ← eb]
      exact congrArg some (hF k 1 (by omega) (by omega))
    rw [L_Layers_learn_1, h3, if_pos (lT (by omega) (by omega)), g0, ob1_ok, if_pos ⟨lF (Nat.zero_le _) (by omega), lT (by omega) (by omega)⟩, ra_ok (by omega) (by omega), ob1_ok, g1, ob1_ok, wa_ok (by omega) (by omega), ob1_ok, ob1_ok, nadd]
    obtain ⟨M', b1, b2, b3⟩ := ih (k + 1) n (up M 144 a (M 144 a ||| jshl (nI 1) (nI b))) (by omega) (by omega) (by rw [up_neC _ _ _ _ (by omega)]; exact h3) (fun j q hj hq => by rw [up_neC _ _ _ _ (by omega)]; exact hF j q hj hq) (fun s hs => by
      rw [sMask, ea, eb, nI_clamp (by omega)]
      by_cases e : s = a
      · rw [e, up_same, upd_same, hE a (by omega)]
      · rw [up_neJ _ _ _ e, upd_ne _ _ e]
        exact hE s hs)
    exact ⟨M', b1, Fr_tr (Fr_up (Fr_rf _ _) (by simp)) b2, b3⟩
theorem l_learn3 (hA : ∀ s, s < 12 → A s < 4096) {b : Nat} (hb : b < 12) : ∀ (m k n : Nat) (M : mM), k + m = 12 → m < n → (∀ s, s < 12 → M 145 s = nI (if s < k then wY A (b + 1) s else wY A b s)) →
    ∃ M', L_Layers_learn_3 z 38 5 16 (nI b) n (nI k) M = some M' ∧ Fr [145] M M' ∧ ∀ s, s < 12 → M' 145 s = nI (wY A (b + 1) s) := by
  intro m
  induction m with
  | zero =>
    intro k n M hk hn hE
    obtain ⟨n, rfl⟩ : ∃ k, n = k + 1 := ⟨n - 1, by omega⟩
    rw [L_Layers_learn_3, if_neg (lF (by omega) (by omega))]
    exact ⟨M, rfl, Fr_rf _ _, fun s hs => by rw [hE s hs, if_pos (by omega)]⟩
  | succ m ih =>
    intro k n M hk hn hE
    obtain ⟨n, rfl⟩ : ∃ k, n = k + 1 := ⟨n - 1, by omega⟩
    have hk12 : k < 12 := by omega
    have eb : M 145 b = nI (wY A b b) := by
      rw [hE b hb]
      split
      · show nI (if (wY A b b).testBit b = true then wY A b b ||| wY A b b else wY A b b) = _
        rw [Nat.or_self]
        split <;> rfl
      · rfl
    have ek : M 145 k = nI (wY A b k) := by rw [hE k hk12, if_neg (by omega)]
    have hlt := wY_lt hA b k (by omega) hk12
    have hv : (if decide (jshr (nI (wY A b k)) (nI b) &&& nI 1 = nI 1) = true then ob1 (ra M 145 12 (nI b)) fun v53 => some v53 else some (nI 0)) = some (if (wY A b k).testBit b = true then nI (wY A b b) else nI 0) := by
      by_cases h : (wY A b k).testBit b = true
      · rw [if_pos h, decide_eq_true ((tb_iff (by omega) hb).mpr h), if_pos rfl, ra_ok hb (by omega), ob1_ok, eb]
      · rw [if_neg h, decide_eq_false (fun h' => h ((tb_iff (by omega) hb).mp h')), if_neg Bool.false_ne_true]
    rw [L_Layers_learn_3, if_pos (lT (by omega) (by omega)), ra_ok hk12 (by omega), ob1_ok, ob1_ok, ob1_ok, ek, hv, ob1_ok, wa_ok hk12 (by omega), ob1_ok, nadd]
    obtain ⟨M', b1, b2, b3⟩ := ih (k + 1) n (up M 145 k (nI (wY A b k) ||| if (wY A b k).testBit b = true then nI (wY A b b) else nI 0)) (by omega) (by omega) (fun s hs => by
      by_cases e : s = k
      · rw [e, up_same, if_pos (show k < k + 1 by omega)]
        show _ = nI (if (wY A b k).testBit b = true then wY A b k ||| wY A b b else wY A b k)
        by_cases h : (wY A b k).testBit b = true
        · rw [if_pos h, if_pos h, or_n]
        · rw [if_neg h, if_neg h, or_n, Nat.or_zero]
      · rw [up_neJ _ _ _ e, hE s hs]
        by_cases h : s < k
        · rw [if_pos h, if_pos (by omega)]
        · rw [if_neg h, if_neg (by omega)])
    exact ⟨M', b1, Fr_tr (Fr_up (Fr_rf _ _) (by simp)) b2, b3⟩
theorem l_learn2 (hz : 100 ≤ z) (hA : ∀ s, s < 12 → A s < 4096) : ∀ (m k n : Nat) (M : mM), k + m = 12 → m < n → (∀ s, s < 12 → M 145 s = nI (wY A k s)) →
    ∃ M', L_Layers_learn_2 z 38 5 16 n (nI k) M = some M' ∧ Fr [145] M M' ∧ ∀ s, s < 12 → M' 145 s = nI (wY A 12 s) := by
  intro m
  induction m with
  | zero =>
    intro k n M hk hn hE
    obtain ⟨n, rfl⟩ : ∃ k, n = k + 1 := ⟨n - 1, by omega⟩
    have ek : k = 12 := by omega
    subst ek
    rw [L_Layers_learn_2, if_neg (lF (by omega) (by omega))]
    exact ⟨M, rfl, Fr_rf _ _, hE⟩
  | succ m ih =>
    intro k n M hk hn hE
    obtain ⟨n, rfl⟩ : ∃ k, n = k + 1 := ⟨n - 1, by omega⟩
    obtain ⟨M1, a1, a2, a3⟩ := l_learn3 (z := z) hA (show k < 12 by omega) 12 0 z M (by omega) (by omega) (fun s hs => by rw [if_neg (by omega)]; exact hE s hs)
    obtain ⟨M', b1, b2, b3⟩ := ih (k + 1) n M1 (by omega) (by omega) a3
    exact ⟨M', by rw [L_Layers_learn_2, if_pos (lT (by omega) (by omega)), a1, ob1_ok, nadd, b1], Fr_tr a2 b2, b3⟩
theorem cw_learn (hz : 1000 ≤ z) (h16 : F.1 ≤ 16) (hb : ∀ j, j < F.1 → bt (F.2 j 0) 0 11 ∧ bt (F.2 j 1) 0 11) (h3 : M 38 3 = nI F.1) (hF : ∀ j q, j < F.1 → q < 2 → M 39 (j * 5 + q) = F.2 j q) :
    ∃ M', F_Layers_learn z 38 5 16 M = some M' ∧ Fr [144, 145] M M' ∧ (∀ s, s < 12 → M' 144 s = nI (mSA F s)) ∧ ∀ s, s < 12 → M' 145 s = nI (wY (mSA F) 12 s) := by
  obtain ⟨M1, a1, a2, a3⟩ := l_learn1 (z := z) h16 hb F.1 0 z (fil M 144 0 12 (fun _ => nI 0)) (by omega) (by omega) (by rw [fil_ne (by omega)]; exact h3) (fun j q hj hq => by rw [fil_ne (by omega)]; exact hF j q hj hq) (fun s hs => by rw [fil_at, if_pos ⟨Nat.zero_le _, hs⟩]; rfl)
  have f1 : Fr [144, 145] M (fil M 144 0 12 (fun _ => nI 0)) := Fr_upR (Fr_rf _ _) (by simp)
  have f2 : Fr [144, 145] M M1 := Fr_tr f1 (Fr_wk a2 (fun c' h => by simp only [List.mem_cons, List.not_mem_nil, or_false] at h ⊢; omega))
  obtain ⟨M', b1, b2, b3⟩ := l_learn2 (z := z) (A := mSA F) (by omega) (fun s _ => (mSA_ok hb s).1) 12 0 z (fil M1 145 0 12 (M1 144)) (by omega) (by omega) (fun s hs => by
    rw [fil_at, if_pos ⟨Nat.zero_le _, hs⟩, a3 s hs]
    exact (mSA_ok hb s).2)
  refine ⟨M', ?_, Fr_tr f2 (Fr_tr (Fr_upR (Fr_rf _ _) (by simp)) (Fr_wk b2 (fun c' h => by simp only [List.mem_cons, List.not_mem_nil, or_false] at h ⊢; omega))), fun s hs => ?_, b3⟩
  · unfold F_Layers_learn
    rw [fill_ok (by omega) (by omega), ob1_ok, a1, ob1_ok, wc_ok (by omega) (by omega) (by omega), ob1_ok, b1, ob1_ok]
  · rw [b2 144 (by simp), fil_ne (by omega), a3 s hs]
    exact (mSA_ok hb s).2
/-! the model's way -/
theorem l_ahead2 (hA : ∀ s, s < 12 → A s < 4096) (hN : ∀ s, s < 12 → N 329 s = nI (A s)) : ∀ (m k n x : Nat), k + m = 12 → m < n → x < 4096 → L_Mod_aheadOf_2 z N n (nI x) (nI k) = some (nI (rdF A m k x)) := by
  intro m
  induction m with
  | zero =>
    intro k n x hk hn hx
    obtain ⟨n, rfl⟩ : ∃ k, n = k + 1 := ⟨n - 1, by omega⟩
    rw [L_Mod_aheadOf_2, if_neg (lF (by omega) (by omega))]
    rfl
  | succ m ih =>
    intro k n x hk hn hx
    obtain ⟨n, rfl⟩ : ∃ k, n = k + 1 := ⟨n - 1, by omega⟩
    rw [L_Mod_aheadOf_2, if_pos (lT (by omega) (by omega)), has_n (by omega) (by omega), nadd, rdF]
    by_cases h : x.testBit k = true
    · rw [if_pos h, if_pos h, ra_ok (by omega) (by omega), ob1_ok, ob1_ok, hN k (by omega), or_n]
      exact ih (k + 1) n _ (by omega) (by omega) (Nat.or_lt_two_pow (n := 12) hx (hA k (by omega)))
    · rw [if_neg h, if_neg h, ob1_ok]
      exact ih (k + 1) n x (by omega) (by omega) hx
theorem l_ahead1 (hz : 100 ≤ z) (hA : ∀ s, s < 12 → A s < 4096) (hN : ∀ s, s < 12 → N 329 s = nI (A s)) : ∀ (m k n x : Nat), k + m = 12 → m < n → x < 4096 → L_Mod_aheadOf_1 z N n (nI x) (nI k) = some (nI (itF A m x)) := by
  intro m
  induction m with
  | zero =>
    intro k n x hk hn hx
    obtain ⟨n, rfl⟩ : ∃ k, n = k + 1 := ⟨n - 1, by omega⟩
    rw [L_Mod_aheadOf_1, if_neg (lF (by omega) (by omega))]
    rfl
  | succ m ih =>
    intro k n x hk hn hx
    obtain ⟨n, rfl⟩ : ∃ k, n = k + 1 := ⟨n - 1, by omega⟩
    rw [L_Mod_aheadOf_1, if_pos (lT (by omega) (by omega)), l_ahead2 hA hN 12 0 z x (by omega) (by omega) hx, ob1_ok, nadd, itF]
    exact ih (k + 1) n _ (by omega) (by omega) (rd_lt hA 12 0 x (by omega) hx)
theorem mm_ahead (hz : 100 ≤ z) (hA : ∀ s, s < 12 → A s < 4096) (hN : ∀ s, s < 12 → N 329 s = nI (A s)) {s : Nat} (hs : s < 12) : F_Mod_aheadOf z (nI s) N = some (nI (wY A 12 s)) := by
  unfold F_Mod_aheadOf
  rw [ra_ok (by omega) (by omega), ob1_ok, hN s hs, l_ahead1 hz hA hN 12 0 z _ (by omega) (by omega) (hA s hs), ob1_ok, it_wY hA hs]
/-- the loops that build a set: q says who is in -/
theorem bld_next {q : Nat → Bool} {k : Nat} (hk : k < 12) : (if q k = true then nI (bld q k) ||| jshl (nI 1) (nI k) else nI (bld q k)) = nI (bld q (k + 1)) ∧ (nI (bld q k) ||| if q k = true then jshl (nI 1) (nI k) else nI 0) = nI (bld q (k + 1)) := by
  rw [bld, shl_n k (by omega)]
  by_cases h : q k = true
  · rw [if_pos h, if_pos h, if_pos h, or_n]
    exact ⟨rfl, rfl⟩
  · rw [if_neg h, if_neg h, if_neg h, or_n, Nat.or_zero]
    exact ⟨rfl, rfl⟩
theorem l_mround (hz : 100 ≤ z) (hA : ∀ s, s < 12 → A s < 4096) (hN : ∀ s, s < 12 → N 329 s = nI (A s)) : ∀ (m k n : Nat), k + m = 12 → m < n → L_Mod_roundSet_1 z N n (nI (bld (fun s => (wY A 12 s).testBit s) k)) (nI k) = some (nI (bld (fun s => (wY A 12 s).testBit s) 12)) := by
  intro m
  induction m with
  | zero =>
    intro k n hk hn
    obtain ⟨n, rfl⟩ : ∃ k, n = k + 1 := ⟨n - 1, by omega⟩
    have ek : k = 12 := by omega
    subst ek
    rw [L_Mod_roundSet_1, if_neg (lF (by omega) (by omega))]
  | succ m ih =>
    intro k n hk hn
    obtain ⟨n, rfl⟩ : ∃ k, n = k + 1 := ⟨n - 1, by omega⟩
    have hlt := wY_lt hA 12 k (by omega) (by omega)
    have hb := (bld_next (q := fun s => (wY A 12 s).testBit s) (show k < 12 by omega)).1
    rw [L_Mod_roundSet_1, if_pos (lT (by omega) (by omega)), mm_ahead hz hA hN (by omega), ob1_ok, ob1_ok, has_n (by omega) (by omega), nadd]
    have e : (if (wY A 12 k).testBit k = true then some (nI (bld (fun s => (wY A 12 s).testBit s) k) ||| jshl (nI 1) (nI k)) else some (nI (bld (fun s => (wY A 12 s).testBit s) k))) = some (nI (bld (fun s => (wY A 12 s).testBit s) (k + 1))) := by
      rw [← hb]
      split <;> rfl
    rw [e, ob1_ok]
    exact ih (k + 1) n (by omega) (by omega)
theorem l_munder (hz : 100 ≤ z) (hA : ∀ s, s < 12 → A s < 4096) (hN : ∀ s, s < 12 → N 329 s = nI (A s)) {s : Nat} (hs : s < 12) : ∀ (m k n : Nat), k + m = 12 → m < n → L_Mod_underOf_1 z (nI s) N n (nI (bld (fun k => (wY A 12 k).testBit s) k)) (nI k) = some (nI (bld (fun k => (wY A 12 k).testBit s) 12)) := by
  intro m
  induction m with
  | zero =>
    intro k n hk hn
    obtain ⟨n, rfl⟩ : ∃ k, n = k + 1 := ⟨n - 1, by omega⟩
    have ek : k = 12 := by omega
    subst ek
    rw [L_Mod_underOf_1, if_neg (lF (by omega) (by omega))]
  | succ m ih =>
    intro k n hk hn
    obtain ⟨n, rfl⟩ : ∃ k, n = k + 1 := ⟨n - 1, by omega⟩
    have hlt := wY_lt hA 12 k (by omega) (by omega)
    have hb := (bld_next (q := fun k => (wY A 12 k).testBit s) (show k < 12 by omega)).1
    rw [L_Mod_underOf_1, if_pos (lT (by omega) (by omega)), mm_ahead hz hA hN (by omega), ob1_ok, ob1_ok, has_n (by omega) hs, nadd]
    have e : (if (wY A 12 k).testBit s = true then some (nI (bld (fun k => (wY A 12 k).testBit s) k) ||| jshl (nI 1) (nI k)) else some (nI (bld (fun k => (wY A 12 k).testBit s) k))) = some (nI (bld (fun k => (wY A 12 k).testBit s) (k + 1))) := by
      rw [← hb]
      split <;> rfl
    rw [e, ob1_ok]
    exact ih (k + 1) n (by omega) (by omega)
theorem mm_round (hz : 100 ≤ z) (hA : ∀ s, s < 12 → A s < 4096) (hN : ∀ s, s < 12 → N 329 s = nI (A s)) : F_Mod_roundSet z N = some (nI (bld (fun s => (wY A 12 s).testBit s) 12)) := by
  unfold F_Mod_roundSet
  have h := l_mround (z := z) hz hA hN 12 0 z (by omega) (by omega)
  have h' : L_Mod_roundSet_1 z N z (nI 0) (nI 0) = some (nI (bld (fun s => (wY A 12 s).testBit s) 12)) := h
  rw [h', ob1_ok]
theorem mm_under (hz : 100 ≤ z) (hA : ∀ s, s < 12 → A s < 4096) (hN : ∀ s, s < 12 → N 329 s = nI (A s)) {s : Nat} (hs : s < 12) : F_Mod_underOf z (nI s) N = some (nI (bld (fun k => (wY A 12 k).testBit s) 12)) := by
  unfold F_Mod_underOf
  have h := l_munder (z := z) hz hA hN hs 12 0 z (by omega) (by omega)
  have h' : L_Mod_underOf_1 z (nI s) N z (nI 0) (nI 0) = some (nI (bld (fun k => (wY A 12 k).testBit s) 12)) := h
  rw [h', ob1_ok]
end S71
