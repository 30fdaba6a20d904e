/-! ===== words put together of legs: both ways ===== -/
/-- the numbers of a set, added up -/
def wSm (F : Rw) (set : Int32) (col : Nat) : Nat → Nat → Int32 → Int32
  | 0, _, a => a
  | m + 1, k, a => wSm F set col m (k + 1) (if jshr set (nI k) &&& nI 1 = nI 1 then a + F.2 k col else a)
def wOr (F : Rw) (set : Int32) : Nat → Nat → Int32 → Int32
  | 0, _, a => a
  | m + 1, k, a => wOr F set m (k + 1) (if jshr set (nI k) &&& nI 1 = nI 1 then a ||| F.2 k 0 else a)
theorem wSm_0 {F : Rw} {col : Nat} : ∀ (m k : Nat) (a : Int32), k + m ≤ 16 → wSm F (nI 0) col m k a = a := by
  intro m
  induction m with
  | zero => intro k a _; rfl
  | succ m ih =>
    intro k a h
    rw [wSm, if_neg (shr_0 k (by omega)), ih _ _ (by omega)]
section S64
variable {z r wd mo : Nat} {M N : mM} {F : Rw} {T : Tx} {p : Nat → Nat} {W : Wd} {c : Nat}
theorem l_sumOf (hF : RwG r wd M F) (hmo : F.1 ≤ mo) (hwd : wd ≤ 5) (hmo2 : mo ≤ 150) {col : Nat} (hcol : col < wd) (set : Int32) : ∀ (m k n : Nat) (a : Int32), k + m = F.1 → m < n → L_Rows_sumOf_1 z r wd mo set (nI col) M n a (nI k) = some (wSm F set col m k a) := by
  intro m
  induction m with
  | zero =>
    intro k n a hk hn
    obtain ⟨n, rfl⟩ : ∃ k, n = k + 1 := ⟨n - 1, by omega⟩
    rw [L_Rows_sumOf_1, hF.1, if_neg (lF (by omega) (by omega))]
    rfl
  | succ m ih =>
    intro k n a hk hn
    obtain ⟨n, rfl⟩ : ∃ k, n = k + 1 := ⟨n - 1, by omega⟩
    rw [L_Rows_sumOf_1, hF.1, if_pos (lT (by omega) (by omega)), wSm]
    by_cases hb : jshr set (nI k) &&& nI 1 = nI 1
    · rw [if_pos hb, if_pos hb, get_ok (n := F.1) hF.1 hmo hwd hmo2 (by omega) hcol, ob1_ok, ob1_ok, nadd, ih (k + 1) n _ (by omega) (by omega), hF.2 k col (by omega) hcol]
    · rw [if_neg hb, if_neg hb, ob1_ok, nadd, ih (k + 1) n _ (by omega) (by omega), show a + nI 0 = a from Int32.add_zero a]
theorem l_unionOf (hF : RwG r wd M F) (hmo : F.1 ≤ mo) (hwd0 : 0 < wd) (hwd : wd ≤ 5) (hmo2 : mo ≤ 150) (set : Int32) : ∀ (m k n : Nat) (a : Int32), k + m = F.1 → m < n → L_Rows_unionOf_1 z r wd mo set M n a (nI k) = some (wOr F set m k a) := by
  intro m
  induction m with
  | zero =>
    intro k n a hk hn
    obtain ⟨n, rfl⟩ : ∃ k, n = k + 1 := ⟨n - 1, by omega⟩
    rw [L_Rows_unionOf_1, hF.1, if_neg (lF (by omega) (by omega))]
    rfl
  | succ m ih =>
    intro k n a hk hn
    obtain ⟨n, rfl⟩ : ∃ k, n = k + 1 := ⟨n - 1, by omega⟩
    rw [L_Rows_unionOf_1, hF.1, if_pos (lT (by omega) (by omega)), wOr]
    by_cases hb : jshr set (nI k) &&& nI 1 = nI 1
    · rw [if_pos hb, if_pos hb, get_ok (k := 0) (n := F.1) hF.1 hmo hwd hmo2 (by omega) hwd0, ob1_ok, ob1_ok, nadd, ih (k + 1) n _ (by omega) (by omega), hF.2 k 0 (by omega) hwd0]
    · rw [if_neg hb, if_neg hb, ob1_ok, nadd, ih (k + 1) n _ (by omega) (by omega), show a ||| nI 0 = a from Int32.or_zero]
theorem l_wordsOf (h6 : F.1 ≤ 6) (h0 : N 312 42 = nI F.1) (hN : ∀ j, j < F.1 → N 335 j = F.2 j 0 ∧ N 336 j = F.2 j 1) (set : Int32) (b : Bool) : ∀ (m k n : Nat) (a : Int32), k + m = F.1 → m < n → L_Mod_wordsOf_1 z set b N n a (nI k) = some (wSm F set (if b = true then 0 else 1) m k a) := by
  intro m
  induction m with
  | zero =>
    intro k n a hk hn
    obtain ⟨n, rfl⟩ : ∃ k, n = k + 1 := ⟨n - 1, by omega⟩
    rw [L_Mod_wordsOf_1, h0, if_neg (lF (by omega) (by omega))]
    rfl
  | succ m ih =>
    intro k n a hk hn
    obtain ⟨n, rfl⟩ : ∃ k, n = k + 1 := ⟨n - 1, by omega⟩
    rw [L_Mod_wordsOf_1, h0, if_pos (lT (by omega) (by omega)), wSm]
    by_cases hb : jshr set (nI k) &&& nI 1 = nI 1
    · rw [if_pos hb, if_pos (show F_Mod_has set (nI k) = true from decide_eq_true hb)]
      obtain ⟨e1, e2⟩ := hN k (by omega)
      cases b with
      | true =>
        rw [if_pos rfl, if_pos rfl, ra_ok (by omega) (by omega), ob1_ok, ob1_ok, ob1_ok, nadd, ih (k + 1) n _ (by omega) (by omega), e1]
        rfl
      | false =>
        rw [if_neg Bool.false_ne_true, if_neg Bool.false_ne_true, ra_ok (by omega) (by omega), ob1_ok, ob1_ok, ob1_ok, nadd, ih (k + 1) n _ (by omega) (by omega), e2]
        rfl
    · rw [if_neg hb, if_neg (show ¬ F_Mod_has set (nI k) = true from fun h => hb (of_decide_eq_true h)), ob1_ok, nadd, ih (k + 1) n _ (by omega) (by omega)]
theorem l_seenBy (h8 : F.1 ≤ 8) (h0 : N 312 45 = nI F.1) (hN : ∀ j, j < F.1 → N 337 j = F.2 j 0) (set : Int32) : ∀ (m k n : Nat) (a : Int32), k + m = F.1 → m < n → L_Mod_seenBy_1 z set N n a (nI k) = some (wOr F set m k a) := by
  intro m
  induction m with
  | zero =>
    intro k n a hk hn
    obtain ⟨n, rfl⟩ : ∃ k, n = k + 1 := ⟨n - 1, by omega⟩
    rw [L_Mod_seenBy_1, h0, if_neg (lF (by omega) (by omega))]
    rfl
  | succ m ih =>
    intro k n a hk hn
    obtain ⟨n, rfl⟩ : ∃ k, n = k + 1 := ⟨n - 1, by omega⟩
    rw [L_Mod_seenBy_1, h0, if_pos (lT (by omega) (by omega)), wOr]
    by_cases hb : jshr set (nI k) &&& nI 1 = nI 1
    · rw [if_pos hb, if_pos (show F_Mod_has set (nI k) = true from decide_eq_true hb), ra_ok (by omega) (by omega), ob1_ok, ob1_ok, nadd, ih (k + 1) n _ (by omega) (by omega), hN k (by omega)]
    · rw [if_neg hb, if_neg (show ¬ F_Mod_has set (nI k) = true from fun h => hb (of_decide_eq_true h)), ob1_ok, nadd, ih (k + 1) n _ (by omega) (by omega)]
theorem l_legs (hz : 100 ≤ z) (h6 : F.1 ≤ 6) (hF : RwG 42 2 M F) (h0 : N 312 42 = nI F.1) (hN : ∀ j, j < F.1 → N 335 j = F.2 j 0 ∧ N 336 j = F.2 j 1) (room : Int32) : ∀ (m k n : Nat) (best : Int32), k + m = 2 ^ F.1 → m < n →
    ∃ b, L_Rec_bestWords_1 z room M n (wSm F best 1 F.1 0 (nI 0)) best (nI k) = some (wSm F b 1 F.1 0 (nI 0), b) ∧ L_Mod_legs_1 z room N n best (nI k) = some b := by
  have e64 : 2 ^ F.1 ≤ 64 := Nat.le_trans (Nat.pow_le_pow_right (by omega) h6) (by decide)
  intro m
  induction m with
  | zero =>
    intro k n best hk hn
    obtain ⟨n, rfl⟩ : ∃ k, n = k + 1 := ⟨n - 1, by omega⟩
    rw [L_Rec_bestWords_1, L_Mod_legs_1, hF.1, h0, shl_n _ (by omega), if_neg (lF (by omega) (by omega)), if_neg (lF (by omega) (by omega))]
    exact ⟨best, rfl, rfl⟩
  | succ m ih =>
    intro k n best hk hn
    obtain ⟨n, rfl⟩ : ∃ k, n = k + 1 := ⟨n - 1, by omega⟩
    have s1 : ∀ col, col < 2 → F_Rows_sumOf z 42 2 6 (nI k) (nI col) M = some (wSm F (nI k) col F.1 0 (nI 0)) := fun col hc => by
      unfold F_Rows_sumOf
      rw [l_sumOf hF h6 (by omega) (by omega) hc (nI k) F.1 0 z (nI 0) (by omega) (by omega), ob1_ok]
    have w1 : ∀ set b, F_Mod_wordsOf z set b N = some (wSm F set (if b = true then 0 else 1) F.1 0 (nI 0)) := fun set b => by
      unfold F_Mod_wordsOf
      rw [l_wordsOf h6 h0 hN set b F.1 0 z (nI 0) (by omega) (by omega), ob1_ok]
    rw [L_Rec_bestWords_1, L_Mod_legs_1, hF.1, h0, shl_n _ (by omega), if_pos (lT (by omega) (by omega)), if_pos (lT (by omega) (by omega)), s1 1 (by omega), s1 0 (by omega), w1 (nI k) true, w1 (nI k) false, w1 best false, ob1_ok, ob1_ok, ob1_ok, if_pos rfl, if_neg Bool.false_ne_true, nadd]
    by_cases h1 : wSm F best 1 F.1 0 (nI 0) < wSm F (nI k) 1 F.1 0 (nI 0)
    · by_cases h2 : ¬ room < wSm F (nI k) 0 F.1 0 (nI 0)
      · rw [if_pos h1, ob1_ok, ob1_ok, decide_eq_true h2, if_pos rfl, if_pos rfl, ob1_ok, ob1_ok, ob1_ok, decide_eq_true h1, if_pos rfl, ob2_ok, ob1_ok]
        exact ih (k + 1) n (nI k) (by omega) (by omega)
      · rw [if_pos h1, ob1_ok, ob1_ok, decide_eq_false h2, if_neg Bool.false_ne_true, if_neg Bool.false_ne_true, ob2_ok, ob1_ok, if_neg Bool.false_ne_true, ob1_ok]
        exact ih (k + 1) n best (by omega) (by omega)
    · rw [if_neg h1, ob1_ok, if_neg Bool.false_ne_true, ob2_ok]
      by_cases h2 : ¬ room < wSm F (nI k) 0 F.1 0 (nI 0)
      · rw [decide_eq_true h2, ob1_ok, if_pos rfl, ob1_ok, ob1_ok, ob1_ok, decide_eq_false h1, if_neg Bool.false_ne_true, ob1_ok]
        exact ih (k + 1) n best (by omega) (by omega)
      · rw [decide_eq_false h2, ob1_ok, if_neg Bool.false_ne_true, ob1_ok, if_neg Bool.false_ne_true, ob1_ok]
        exact ih (k + 1) n best (by omega) (by omega)
theorem b_legs (hz : 1000 ≤ z) (hT : okT T) (hCT : CT 28 M T) (hMT : MT N T) (hC : CW false 1 M p W) (hR : RM N W) (what : Int32) : ∃ v, F_Rec_legs z what M = some v ∧ F_Mod_legs z what N = some v := by
  have h6 : (tWrd T).1 ≤ 6 := hT.2.2.1.1
  have hF := hCT.2.2.1
  obtain ⟨h0, hN⟩ := hMT.2.2.1
  have e64 : 2 ^ (tWrd T).1 ≤ 64 := Nat.le_trans (Nat.pow_le_pow_right (by omega) h6) (by decide)
  have e1 : 1 ≤ 2 ^ (tWrd T).1 := Nat.one_le_two_pow
  unfold F_Rec_legs F_Mod_legs F_Rec_bestWords
  rw [isIn_eq]
  by_cases hw : F_Rec_within what (nI 0) (nI 1) = true
  · have es : sumF (M 3) 60 0 (nI 0) = sumF (wL W) 60 0 (nI 0) := sumF_cg 60 0 _ (fun j _ h => CW_L hC (by omega))
    have em : F_Mod_legsOfAll z N = some (sumF (wL W) 60 0 (nI 0)) := by
      unfold F_Mod_legsOfAll
      rw [l_msumL hR 60 0 z (nI 0) (by omega) (by omega), ob1_ok]
    obtain ⟨b, a1, a2⟩ := l_legs (z := z) (by omega) h6 hF h0 hN (sumF (wL W) 60 0 (nI 0)) (2 ^ (tWrd T).1 - 1) 1 z (nI 0) (by omega) (by omega)
    rw [wSm_0 _ _ _ (by omega)] at a1
    rw [if_pos hw, if_neg (fun h => h hw), cw_sum hz, em, ob1_ok, ob1_ok, es, a1, a2, ob2_ok, ob1_ok, ob1_ok]
    by_cases h : what = nI 0
    · unfold F_Mod_wordsOf
      rw [if_pos h, ob1_ok, if_pos h, l_wordsOf h6 h0 hN b false (tWrd T).1 0 z (nI 0) (by omega) (by omega), ob1_ok, ob1_ok, ob1_ok]
      exact ⟨_, rfl, rfl⟩
    · rw [if_neg h, ob1_ok, if_neg h, ob1_ok]
      exact ⟨_, rfl, rfl⟩
  · rw [if_neg hw, if_pos hw, ob1_ok]
    exact ⟨_, rfl, rfl⟩
end S64
