/-! ===== how few strips show all: both ways ===== -/
section S65
variable {z : Nat} {M N : mM} {F : Rw} {T : Tx} {all what : Int32}
def seen (F : Rw) (s : Nat) : Int32 := wOr F (nI s) F.1 0 (nI 0)
/-- the least of those sets of fewest that show all -/
def LM (F : Rw) (all : Int32) (E b : Nat) : Prop := b < E ∧ seen F b = all ∧ (∀ s, s < E → seen F s = all → pcN b ≤ pcN s) ∧ ∀ s, s < b → seen F s = all → pcN b < pcN s
theorem LM_one {E b b' : Nat} (h : LM F all E b) (h' : LM F all E b') : b = b' := by
  obtain ⟨h1, h2, h3, h4⟩ := h
  obtain ⟨g1, g2, g3, g4⟩ := h'
  have a := h3 b' g1 g2
  have a' := g3 b h1 h2
  by_cases e : b < b'
  · have := g4 b e h2
    omega
  · by_cases e' : b' < b
    · have := h4 b' e' g2
      omega
    · omega
theorem l_fewest (hz : 100 ≤ z) (h8 : F.1 ≤ 8) (hF : RwG 44 1 M F) : ∀ (m k n : Nat) (f b : Nat), k + m = 2 ^ F.1 → m < n → (f = 9 ∧ b = 0 ∧ (∀ s, s < k → seen F s ≠ all)) ∨ (f = pcN b ∧ LM F all k b) →
    ∃ f' b', L_Rec_fewestLooks_1 z all M n (nI f) (nI b) (nI k) = some (nI f', nI b') ∧ ((f' = 9 ∧ b' = 0 ∧ (∀ s, s < 2 ^ F.1 → seen F s ≠ all)) ∨ (f' = pcN b' ∧ LM F all (2 ^ F.1) b')) := by
  have e256 : 2 ^ F.1 ≤ 256 := Nat.le_trans (Nat.pow_le_pow_right (by omega) h8) (by decide)
  intro m
  induction m with
  | zero =>
    intro k n f b hk hn hI
    obtain ⟨n, rfl⟩ : ∃ k, n = k + 1 := ⟨n - 1, by omega⟩
    have ek : k = 2 ^ F.1 := by omega
    rw [L_Rec_fewestLooks_1, hF.1, shl_n _ (by omega), if_neg (lF (by omega) (by omega))]
    rw [ek] at hI
    exact ⟨f, b, rfl, hI⟩
  | succ m ih =>
    intro k n f b hk hn hI
    obtain ⟨n, rfl⟩ : ∃ k, n = k + 1 := ⟨n - 1, by omega⟩
    obtain ⟨p1, -, p3, -⟩ := pc_ok (show k < 4096 by omega)
    have pk8 := p3 (by omega)
    have hf9 : f ≤ 12 := by
      rcases hI with ⟨h, -⟩ | ⟨h, h2, -⟩
      · omega
      · rw [h]
        exact (pc_ok (by omega)).2.1
    have s1 : F_Rows_unionOf z 44 1 8 (nI k) M = some (seen F k) := by
      unfold F_Rows_unionOf
      rw [l_unionOf hF h8 (by omega) (by omega) (by omega) (nI k) F.1 0 z (nI 0) (by omega) (by omega), ob1_ok]
      rfl
    rw [L_Rec_fewestLooks_1, hF.1, shl_n _ (by omega), if_pos (lT (by omega) (by omega)), bitCount_ok, p1, ob1_ok, ob1_ok, s1, nadd]
    by_cases h1 : pcN k < f
    · rw [decide_eq_true (lT h1 (by omega)), if_pos rfl, ob1_ok, ob1_ok]
      by_cases h2 : seen F k = all
      · rw [decide_eq_true h2, if_pos rfl, ob1_ok, ob2_ok]
        refine ih (k + 1) n (pcN k) k (by omega) (by omega) (Or.inr ⟨rfl, by omega, h2, fun s hs hq => ?_, fun s hs hq => ?_⟩)
        · by_cases e : s = k
          · rw [e]; exact Nat.le_refl _
          · rcases hI with ⟨-, -, h⟩ | ⟨h, -, -, h', -⟩
            · exact absurd hq (h s (by omega))
            · have := h' s (by omega) hq
              omega
        · rcases hI with ⟨-, -, h⟩ | ⟨h, -, -, h', -⟩
          · exact absurd hq (h s hs)
          · have := h' s hs hq
            omega
      · rw [decide_eq_false h2, if_neg Bool.false_ne_true, ob2_ok]
        refine ih (k + 1) n f b (by omega) (by omega) ?_
        rcases hI with ⟨h, h', h''⟩ | ⟨h, g1, g2, g3, g4⟩
        · refine Or.inl ⟨h, h', fun s hs => ?_⟩
          by_cases e : s = k
          · rw [e]; exact h2
          · exact h'' s (by omega)
        · refine Or.inr ⟨h, by omega, g2, fun s hs hq => ?_, g4⟩
          by_cases e : s = k
          · rw [e] at hq; exact absurd hq h2
          · exact g3 s (by omega) hq
    · rw [decide_eq_false (lF (by omega) (by omega)), if_neg Bool.false_ne_true, ob1_ok, if_neg Bool.false_ne_true, ob2_ok]
      refine ih (k + 1) n f b (by omega) (by omega) ?_
      rcases hI with ⟨h, h', h''⟩ | ⟨h, g1, g2, g3, g4⟩
      · omega
      · refine Or.inr ⟨h, by omega, g2, fun s hs hq => ?_, g4⟩
        by_cases e : s = k
        · rw [e]; omega
        · exact g3 s (by omega) hq
theorem l_cover1 (hz : 100 ≤ z) (h8 : F.1 ≤ 8) (h0 : N 312 45 = nI F.1) (hN : ∀ j, j < F.1 → N 337 j = F.2 j 0) : ∀ (m k n : Nat) (b : Nat), k + m = 2 ^ F.1 → m < n → (b = 2 ^ F.1 - 1 ∧ ∀ s, s < k → seen F s = all → pcN b ≤ pcN s) ∨ LM F all k b →
    ∃ b', L_Mod_cover_1 z all N n (nI b) (nI k) = some (nI b') ∧ ((b' = 2 ^ F.1 - 1 ∧ ∀ s, s < 2 ^ F.1 → seen F s = all → pcN b' ≤ pcN s) ∨ LM F all (2 ^ F.1) b') := by
  have e256 : 2 ^ F.1 ≤ 256 := Nat.le_trans (Nat.pow_le_pow_right (by omega) h8) (by decide)
  have e1 : 1 ≤ 2 ^ F.1 := Nat.one_le_two_pow
  intro m
  induction m with
  | zero =>
    intro k n b hk hn hI
    obtain ⟨n, rfl⟩ : ∃ k, n = k + 1 := ⟨n - 1, by omega⟩
    have ek : k = 2 ^ F.1 := by omega
    rw [L_Mod_cover_1, h0, shl_n _ (by omega), if_neg (lF (by omega) (by omega))]
    rw [ek] at hI
    exact ⟨b, rfl, hI⟩
  | succ m ih =>
    intro k n b hk hn hI
    obtain ⟨n, rfl⟩ : ∃ k, n = k + 1 := ⟨n - 1, by omega⟩
    have hb : b < 256 := by
      rcases hI with ⟨h, -⟩ | ⟨h, -⟩ <;> omega
    have pk := (pc_ok (show k < 4096 by omega)).2.1
    have pb := (pc_ok (show b < 4096 by omega)).2.1
    have s1 : F_Mod_seenBy z (nI k) N = some (seen F k) := by
      unfold F_Mod_seenBy
      rw [l_seenBy h8 h0 hN (nI k) F.1 0 z (nI 0) (by omega) (by omega), ob1_ok]
      rfl
    rw [L_Mod_cover_1, h0, shl_n _ (by omega), if_pos (lT (by omega) (by omega)), ones_ok hz (by omega), ones_ok hz (by omega), ob1_ok, ob1_ok, s1, nadd]
    by_cases h1 : pcN k < pcN b
    · rw [decide_eq_true (lT h1 (by omega)), ob1_ok, if_pos rfl, ob1_ok]
      by_cases h2 : seen F k = all
      · rw [decide_eq_true h2, ob1_ok, if_pos rfl, ob1_ok]
        refine ih (k + 1) n k (by omega) (by omega) (Or.inr ⟨by omega, h2, fun s hs hq => ?_, fun s hs hq => ?_⟩)
        · by_cases e : s = k
          · rw [e]; exact Nat.le_refl _
          · rcases hI with ⟨-, h⟩ | ⟨-, -, h', -⟩
            · have := h s (by omega) hq
              omega
            · have := h' s (by omega) hq
              omega
        · rcases hI with ⟨-, h⟩ | ⟨-, -, h', -⟩
          · have := h s hs hq
            omega
          · have := h' s hs hq
            omega
      · rw [decide_eq_false h2, ob1_ok, if_neg Bool.false_ne_true, ob1_ok]
        refine ih (k + 1) n b (by omega) (by omega) ?_
        rcases hI with ⟨h, h'⟩ | ⟨g1, g2, g3, g4⟩
        · refine Or.inl ⟨h, fun s hs hq => ?_⟩
          by_cases e : s = k
          · rw [e] at hq; exact absurd hq h2
          · exact h' s (by omega) hq
        · refine Or.inr ⟨by omega, g2, fun s hs hq => ?_, g4⟩
          by_cases e : s = k
          · rw [e] at hq; exact absurd hq h2
          · exact g3 s (by omega) hq
    · rw [decide_eq_false (lF (by omega) (by omega)), ob1_ok, if_neg Bool.false_ne_true, ob1_ok, if_neg Bool.false_ne_true, ob1_ok]
      refine ih (k + 1) n b (by omega) (by omega) ?_
      rcases hI with ⟨h, h'⟩ | ⟨g1, g2, g3, g4⟩
      · refine Or.inl ⟨h, fun s hs hq => ?_⟩
        by_cases e : s = k
        · rw [e]; omega
        · exact h' s (by omega) hq
      · refine Or.inr ⟨by omega, g2, fun s hs hq => ?_, g4⟩
        by_cases e : s = k
        · rw [e]; omega
        · exact g3 s (by omega) hq
theorem l_cover2 (hz : 100 ≤ z) (h8 : F.1 ≤ 8) (h0 : N 312 45 = nI F.1) (hN : ∀ j, j < F.1 → N 337 j = F.2 j 0) {b : Nat} (hb : b < 256) (hq : seen F b = all) : ∀ (m k n : Nat), k + m = b → m < n → (∀ s, s < k → seen F s = all → pcN s ≠ pcN b) →
    ∃ b', b' ≤ b ∧ seen F b' = all ∧ pcN b' = pcN b ∧ (∀ s, s < b' → seen F s = all → pcN s ≠ pcN b) ∧ L_Mod_cover_2 z what (nI b) all N (some (if what = nI 0 then nI (pcN b) else nI b)) n (nI k) = some (if what = nI 0 then nI (pcN b') else nI b') := by
  intro m
  induction m with
  | zero =>
    intro k n hk hn hI
    obtain ⟨n, rfl⟩ : ∃ k, n = k + 1 := ⟨n - 1, by omega⟩
    refine ⟨b, Nat.le_refl _, hq, rfl, fun s hs => hI s (by omega), ?_⟩
    rw [L_Mod_cover_2, if_neg (lF (by omega) (by omega))]
  | succ m ih =>
    intro k n hk hn hI
    obtain ⟨n, rfl⟩ : ∃ k, n = k + 1 := ⟨n - 1, by omega⟩
    have pk := (pc_ok (show k < 4096 by omega)).2.1
    have pb := (pc_ok (show b < 4096 by omega)).2.1
    have s1 : F_Mod_seenBy z (nI k) N = some (seen F k) := by
      unfold F_Mod_seenBy
      rw [l_seenBy h8 h0 hN (nI k) F.1 0 z (nI 0) (by omega) (by omega), ob1_ok]
      rfl
    rw [L_Mod_cover_2, if_pos (lT (by omega) (by omega)), ones_ok hz (by omega), ones_ok hz (by omega), ob1_ok, ob1_ok, s1, nadd]
    by_cases h1 : pcN k = pcN b
    · rw [decide_eq_true (show nI (pcN k) = nI (pcN b) by rw [h1]), ob1_ok, if_pos rfl, ob1_ok]
      by_cases h2 : seen F k = all
      · refine ⟨k, by omega, h2, h1, hI, ?_⟩
        rw [decide_eq_true h2, ob1_ok, if_pos rfl]
        by_cases hw : what = nI 0
        · rw [if_pos hw, ob1_ok, ob1_ok, if_pos hw]
        · rw [if_neg hw, ob1_ok, if_neg hw]
      · rw [decide_eq_false h2, ob1_ok, if_neg Bool.false_ne_true]
        refine ih (k + 1) n (by omega) (by omega) (fun s hs hqs => ?_)
        by_cases e : s = k
        · rw [e] at hqs; exact absurd hqs h2
        · exact hI s (by omega) hqs
    · rw [decide_eq_false (eF h1 (by omega) (by omega)), ob1_ok, if_neg Bool.false_ne_true, ob1_ok, if_neg Bool.false_ne_true]
      refine ih (k + 1) n (by omega) (by omega) (fun s hs hqs => ?_)
      by_cases e : s = k
      · rw [e]; exact h1
      · exact hI s (by omega) hqs
theorem b_cover (hz : 1000 ≤ z) (hT : okT T) (hCT : CT 28 M T) (hMT : MT N T) (what : Int32) : ∃ v, F_Rec_cover z what M = some v ∧ F_Mod_cover z what N = some v := by
  obtain ⟨F, eF'⟩ : ∃ F, F = tLok T := ⟨_, rfl⟩
  have h8 : F.1 ≤ 8 := eF' ▸ hT.2.2.2.1.1
  have hF : RwG 44 1 M F := eF' ▸ hCT.2.2.2.1
  have hM' : N 312 45 = nI F.1 ∧ ∀ j, j < F.1 → N 337 j = F.2 j 0 := eF' ▸ hMT.2.2.2.1
  obtain ⟨h0, hN⟩ := hM'
  have e256 : 2 ^ F.1 ≤ 256 := Nat.le_trans (Nat.pow_le_pow_right (by omega) h8) (by decide)
  have e1 : 1 ≤ 2 ^ F.1 := Nat.one_le_two_pow
  unfold F_Rec_cover F_Mod_cover F_Rec_fewestLooks
  rw [isIn_eq]
  by_cases hw : F_Rec_within what (nI 0) (nI 1) = true
  · obtain ⟨all, hall⟩ : ∃ a, a = seen F (2 ^ F.1 - 1) := ⟨_, rfl⟩
    have s1 : F_Rows_unionOf z 44 1 8 (nI (2 ^ F.1 - 1)) M = some all := by
      unfold F_Rows_unionOf
      rw [l_unionOf hF h8 (by omega) (by omega) (by omega) _ F.1 0 z (nI 0) (by omega) (by omega), ob1_ok, hall]
      rfl
    have s2 : F_Mod_seenBy z (nI (2 ^ F.1 - 1)) N = some all := by
      unfold F_Mod_seenBy
      rw [l_seenBy h8 h0 hN _ F.1 0 z (nI 0) (by omega) (by omega), ob1_ok, hall]
      rfl
    obtain ⟨f', b', a1, a2⟩ := l_fewest (z := z) (all := all) (by omega) h8 hF (2 ^ F.1) 0 z 9 0 (by omega) (by omega) (Or.inl ⟨rfl, rfl, fun s hs => absurd hs (Nat.not_lt_zero s)⟩)
    have aM : f' = pcN b' ∧ LM F all (2 ^ F.1) b' := a2.resolve_left (fun h => h.2.2 (2 ^ F.1 - 1) (by omega) hall.symm)
    obtain ⟨b1, g1, g2⟩ := l_cover1 (z := z) (all := all) (by omega) h8 h0 hN (2 ^ F.1) 0 z (2 ^ F.1 - 1) (by omega) (by omega) (Or.inl ⟨rfl, fun s hs => absurd hs (Nat.not_lt_zero s)⟩)
    have hb1 : b1 < 2 ^ F.1 ∧ seen F b1 = all ∧ ∀ s, s < 2 ^ F.1 → seen F s = all → pcN b1 ≤ pcN s := by
      rcases g2 with ⟨h, h'⟩ | ⟨h1, h2, h3, -⟩
      · exact ⟨by omega, by rw [h]; exact hall.symm, h'⟩
      · exact ⟨h1, h2, h3⟩
    obtain ⟨b2, c1, c2, c3, c4, c5⟩ := l_cover2 (z := z) (all := all) (what := what) (by omega) h8 h0 hN (show b1 < 256 by omega) hb1.2.1 b1 0 z (by omega) (by omega) (fun s hs => absurd hs (Nat.not_lt_zero s))
    have hLM : LM F all (2 ^ F.1) b2 := ⟨by omega, c2, fun s hs hq => by rw [c3]; exact hb1.2.2 s hs hq, fun s hs hq => by
      have h1 := c4 s hs hq
      have h2 := hb1.2.2 s (by omega) hq
      omega⟩
    have eb := LM_one aM.2 hLM
    rw [if_pos hw, if_neg (fun h => h hw), hF.1, h0, shl_n _ (by omega), nsb (by omega), s1, ob1_ok, ob1_ok, a1, ob2_ok, ob1_ok, ob1_ok, s2, ob1_ok, g1, ob1_ok, aM.1, eb]
    refine ⟨_, rfl, ?_⟩
    rw [← c5]
    congr 1
    by_cases h : what = nI 0
    · rw [if_pos h, ones_ok (by omega) (by omega), ob1_ok, ob1_ok, if_pos h]
    · rw [if_neg h, ob1_ok, if_neg h]
  · rw [if_neg hw, if_pos hw, ob1_ok]
    exact ⟨_, rfl, rfl⟩
end S65
