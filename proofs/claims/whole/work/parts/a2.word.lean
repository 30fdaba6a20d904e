/-! ===== a keyword taken, a keyword and a number: both ways ===== -/
section SA2
variable {z n t i : Nat} {M N M' N' : mM} {tp : Nat → Nat}
/-- the class takes a keyword of these; the model goes on, or tells fault 1 -/
theorem pz_word (hz : 1000 ≤ z) (h : PZ tp n t i M N) {a b col : Nat} (ha : a < 100) (hb : b < 100) (hc : col < 5) :
    (¬ ((tkA tp n i).1 = 3 ∧ a ≤ (tkA tp n i).2.1 ∧ (tkA tp n i).2.1 ≤ b) ∧ ∃ M' N', F_Reader_takeWord (nI a) (nI b) (nI col) M = some (false, M') ∧ F_Mod_errs (nI 1) N = some (-1, N') ∧ FQ M' N' ∧ FrK M M' ∧ FrE N N') ∨
    (((tkA tp n i).1 = 3 ∧ a ≤ (tkA tp n i).2.1 ∧ (tkA tp n i).2.1 ≤ b) ∧ ∃ M' N', F_Reader_takeWord (nI a) (nI b) (nI col) M = some (true, M') ∧ F_Mod_reads z N = some N' ∧ PZ tp n t (min (i + 1) t) M' N' ∧ M' 108 col = nI (tkA tp n i).2.1 ∧ (∀ j, j ≠ col → M' 108 j = M 108 j) ∧ FrK M M' ∧ FrE N N') := by
  have hw := pz_isWord h ha hb
  unfold F_Reader_takeWord
  rw [hw, ob1_ok, ob1_ok, ob1_ok]
  by_cases hd : (tkA tp n i).1 = 3 ∧ a ≤ (tkA tp n i).2.1 ∧ (tkA tp n i).2.1 ≤ b
  · obtain ⟨M', N', g1, g2, g3, g4, g5, g6, g7⟩ := pz_keep (z := z) hz h (by omega) hc
    refine Or.inr ⟨hd, M', N', ?_, g2, g3, g4, g5, g6, g7⟩
    rw [decide_eq_true hd, if_neg (show ¬ (!true) = true from Bool.false_ne_true), g1, ob2_ok]
  · obtain ⟨M', N', g1, g2, g3, g4, g5⟩ := pz_fail h (nI 1)
    refine Or.inl ⟨hd, M', N', ?_, g2, g3, g4, g5⟩
    rw [decide_eq_false hd, if_pos (show (!false) = true from rfl), g1, ob2_ok]
/-- a keyword and a number behind it -/
theorem pz_told (hz : 1000 ≤ z) (h : PZ tp n t i M N) {k w lo hi col col2 : Nat} (hk : k < 29) (hw : pmW k = w) (hh : hi < 10000) (hl : lo ≤ hi) (hc : col < 5) (hc2 : col2 < 5) : ∃ M' N', FrK M M' ∧ FrE N N' ∧
    ((∃ b M1, F_Reader_takeWord (nI k) (nI k) (nI col) M = some (b, M1) ∧ (b = false → M1 = M') ∧ (b = true → F_Reader_takeNumber (nI lo) (nI hi) (nI col2) M1 = some (false, M')) ∧ F_Mod_readTold z (nI w) (nI lo) (nI hi) N = some (-1, N') ∧ FQ M' N') ∨
     (∃ v M1, lo ≤ v ∧ v ≤ hi ∧ F_Reader_takeWord (nI k) (nI k) (nI col) M = some (true, M1) ∧ F_Reader_takeNumber (nI lo) (nI hi) (nI col2) M1 = some (true, M') ∧ F_Mod_readTold z (nI w) (nI lo) (nI hi) N = some (nI v, N') ∧ PZ tp n t (min (min (i + 1) t + 1) t) M' N' ∧ M' 108 col2 = nI v ∧ ∀ j, j ≠ col → j ≠ col2 → M' 108 j = M 108 j)) := by
  have hw29 := pmW_lt k hk
  have hmw := pz_mWord h (w := w) (by omega)
  have hr := PZ_r h
  have hiff : ((tkA tp n i).1 = 3 ∧ k ≤ (tkA tp n i).2.1 ∧ (tkA tp n i).2.1 ≤ k) ↔ ((tkA tp n i).1 = 3 ∧ pmW (tkA tp n i).2.1 = w) := by
    constructor
    · rintro ⟨h1, h2, h3⟩
      have : (tkA tp n i).2.1 = k := by omega
      exact ⟨h1, by rw [this]; exact hw⟩
    · rintro ⟨h1, h2⟩
      have hv := hr.2.2.2.1 h1
      have : (tkA tp n i).2.1 = k := pmW_inj _ hv k hk (by rw [h2, hw])
      exact ⟨h1, by omega, by omega⟩
  unfold F_Mod_readTold
  rw [hmw]
  rcases pz_word (z := z) hz h (a := k) (b := k) (by omega) (by omega) hc with ⟨hd, M', N', g1, g2, g3, g4, g5⟩ | ⟨hd, M1, N1, g1, g2, g3, g4, g5, g6, g7⟩
  · refine ⟨M', N', g4, g5, Or.inl ⟨false, M', g1, fun _ => rfl, fun h => absurd h Bool.false_ne_true, ?_, g3⟩⟩
    rw [decide_eq_false (fun h' => hd (hiff.mpr h')), if_pos (show ¬ false = true from Bool.false_ne_true), g2, ob2_ok]
  · obtain ⟨M', N', q1, q2, q3⟩ := pz_num (z := z) hz g3 hh hl hc2
    rcases q3 with ⟨u1, u2, u3⟩ | ⟨v, v1, v2, u1, u2, u3, u4, u5⟩
    · refine ⟨M', N', FrK_tr g6 q1, FrE_tr g7 q2, Or.inl ⟨true, M1, g1, fun h => absurd h.symm Bool.false_ne_true, fun _ => u1, ?_, u3⟩⟩
      rw [decide_eq_true (hiff.mp hd), if_neg (show ¬ ¬ true = true from fun h => h rfl), g2, ob1_ok, u2, ob2_ok]
    · refine ⟨M', N', FrK_tr g6 q1, FrE_tr g7 q2, Or.inr ⟨v, M1, v1, v2, g1, u1, ?_, u3, u4, fun j a b => by rw [u5 j b, g5 j a]⟩⟩
      rw [decide_eq_true (hiff.mp hd), if_neg (show ¬ ¬ true = true from fun h => h rfl), g2, ob1_ok, u2, ob2_ok]
end SA2
