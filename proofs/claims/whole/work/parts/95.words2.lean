/-! ===== keywords: the model's way, and both ===== -/
def kpW (q : Nat) : Nat := if q < 29 then mSt q - 1 else 142
theorem endW : ∀ q, q < 29 → 1 ≤ mSt q ∧ mSt q + mLn q = kpW (q + 1) ∧ mSt q + mLn q ≤ 142 ∧ mtb (mSt q + mLn q) = 32 ∧ 1 ≤ mLn q ∧ ∀ j, j < mLn q → mtb (mSt q + j) ≠ 32 := by decide +kernel
theorem mtb_b : ∀ j, j < 143 → mtb j < 256 := by decide +kernel
theorem mtb_142 : mtb 142 = 32 := by decide +kernel
theorem kpW_29 : kpW 29 = 142 := by decide
section S95
variable {z n : Nat} {M N : mM} {tp : Nat → Nat}
theorem l_word2 (hz : 1000 ≤ z) (hT : TB M N n tp) (hW : WT N) {a L s : Nat} (hs1 : 1 ≤ s) (ha : a + L ≤ n) (hl : ∀ j, j < L → tp (a + j) ≠ 32) : ∀ (m i y : Nat), i + m = L → m < y → s + i ≤ 142 → (∀ j, j < i → mtb (s + j) = tp (a + j)) →
    ∃ r, r ≤ L ∧ s + r ≤ 142 ∧ L_Mod_wordAt_2 z (nI a) (nI (a + L)) (nI (s - 1)) N y (nI i) = some (nI r) ∧ (∀ j, j < r → mtb (s + j) = tp (a + j)) ∧ (r = L ∨ mtb (s + r) ≠ tp (a + r)) := by
  obtain ⟨h4, hb⟩ := hT
  intro m
  induction m with
  | zero =>
    intro i y hi hy hs hE
    obtain ⟨y, rfl⟩ : ∃ k, y = k + 1 := ⟨y - 1, by omega⟩
    refine ⟨i, by omega, hs, ?_, hE, Or.inl (by omega)⟩
    rw [L_Mod_wordAt_2, nadd, if_neg (lF (by omega) (by omega)), ob1_ok, if_neg Bool.false_ne_true]
  | succ m ih =>
    intro i y hi hy hs hE
    obtain ⟨y, rfl⟩ : ∃ k, y = k + 1 := ⟨y - 1, by omega⟩
    obtain ⟨b1, b2, b3⟩ := hb (a + i) (by omega)
    have b4 := mtb_b (s + i) (by omega)
    have e1 : L_Mod_wordAt_2 z (nI a) (nI (a + L)) (nI (s - 1)) N (y + 1) (nI i) = if decide (nI (mtb (s + i)) = nI (tp (a + i))) = true then L_Mod_wordAt_2 z (nI a) (nI (a + L)) (nI (s - 1)) N y (nI (i + 1)) else some (nI i) := by
      rw [L_Mod_wordAt_2, nadd, if_pos (lT (by omega) (by omega)), nadd, show s - 1 + 1 = s by omega, nadd, ra_ok (by omega) (by omega), ob1_ok, ra_ok (by omega) (by omega), ob1_ok, ob1_ok, hW _ (by omega), b3, nadd]
      rfl
    rw [e1]
    by_cases e : mtb (s + i) = tp (a + i)
    · rw [decide_eq_true (show nI (mtb (s + i)) = nI (tp (a + i)) by rw [e]), if_pos rfl]
      have hne : s + i ≠ 142 := fun h => by
        have h1 := hl i (by omega)
        rw [← e, h, mtb_142] at h1
        exact h1 rfl
      exact ih (i + 1) y (by omega) (by omega) (by omega) (fun j hj => by
        by_cases ej : j = i
        · rw [ej]; exact e
        · exact hE j (by omega))
    · rw [decide_eq_false (eF e (by omega) (by omega)), if_neg Bool.false_ne_true]
      exact ⟨i, by omega, hs, rfl, hE, Or.inr e⟩
theorem l_word3 (hW : WT N) {q : Nat} (hq : q < 29) : ∀ (m j y : Nat), j + m = mLn q → m < y → L_Mod_wordAt_3 z N y (nI (mSt q + j)) = some (nI (kpW (q + 1))) := by
  obtain ⟨e1, e2, e3, e4, e5, e6⟩ := endW q hq
  intro m
  induction m with
  | zero =>
    intro j y hj hy
    obtain ⟨y, rfl⟩ : ∃ k, y = k + 1 := ⟨y - 1, by omega⟩
    have ej : j = mLn q := by omega
    subst ej
    have hv : N 318 (mSt q + mLn q) = nI 32 := by
      rw [hW _ (by omega)]
      exact congrArg nI e4
    rw [L_Mod_wordAt_3, ra_ok (by omega) (by omega), ob1_ok, ob1_ok, hv, decide_eq_false (fun h => h rfl), if_neg Bool.false_ne_true, e2]
  | succ m ih =>
    intro j y hj hy
    obtain ⟨y, rfl⟩ : ∃ k, y = k + 1 := ⟨y - 1, by omega⟩
    have b4 := mtb_b (mSt q + j) (by omega)
    have hv : N 318 (mSt q + j) = nI (mtb (mSt q + j)) := hW _ (by omega)
    rw [L_Mod_wordAt_3, ra_ok (by omega) (by omega), ob1_ok, ob1_ok, hv, decide_eq_true (eF (e6 j (by omega)) (by omega) (by omega)), if_pos rfl, nadd]
    exact ih (j + 1) y (by omega) (by omega)
def mtW (tp : Nat → Nat) (a L q : Nat) : Prop := mLn q = L ∧ eqB mtb (mSt q) tp a L = true
theorem l_word1 (hz : 1000 ≤ z) (hT : TB M N n tp) (hW : WT N) {a L : Nat} (ha : a + L ≤ n) (hl : ∀ j, j < L → tp (a + j) ≠ 32) : ∀ (m q y : Nat), q + m = 29 → m < y →
    ∃ r, L_Mod_wordAt_1 z (nI a) (nI (a + L)) N (fun _ _ => some (-1)) y (nI q - nI 1) (nI (kpW q)) = some r ∧ ((∃ k, k < 29 ∧ r = nI k ∧ mtW tp a L k) ∨ (r = -1 ∧ ∀ k, q ≤ k → k < 29 → ¬ mtW tp a L k)) := by
  have h4 := hT.1
  intro m
  induction m with
  | zero =>
    intro q y hq hy
    obtain ⟨y, rfl⟩ : ∃ k, y = k + 1 := ⟨y - 1, by omega⟩
    have eq : q = 29 := by omega
    subst eq
    rw [kpW_29, L_Mod_wordAt_1, if_neg (lF (by omega) (by omega))]
    exact ⟨-1, rfl, Or.inr ⟨rfl, fun k h1 h2 => by omega⟩⟩
  | succ m ih =>
    intro q y hq hy
    obtain ⟨y, rfl⟩ : ∃ k, y = k + 1 := ⟨y - 1, by omega⟩
    have hq29 : q < 29 := by omega
    obtain ⟨e1, e2, e3, e4, e5, e6⟩ := endW q hq29
    have ek : kpW q = mSt q - 1 := if_pos hq29
    obtain ⟨r, r1, r2, r3, r4, r5⟩ := l_word2 (z := z) hz hT hW e1 ha hl L 0 z (by omega) (by omega) (by omega) (fun j hj => absurd hj (Nat.not_lt_zero j))
    have w3 := l_word3 (z := z) hW hq29 (mLn q) 0 z (by omega) (by omega)
    rw [Nat.add_zero] at w3
    obtain ⟨x, g1, g2⟩ := ih (q + 1) y (by omega) (by omega)
    have hq1 : nI q - nI 1 + nI 1 = nI q := zsub
    have hq2 : nI (q + 1) - nI 1 = nI q := by rw [nsb (by omega), Nat.add_sub_cancel]
    have hkt : mSt q - 1 < 142 := by omega
    have hms : mSt q - 1 + 1 = mSt q := Nat.sub_add_cancel e1
    have b4 := mtb_b (mSt q + r) (by omega)
    have hcond : (if nI a + nI r = nI (a + L) then ob1 (ra N 318 143 (nI (mSt q - 1) + nI 1 + nI r)) fun v43 => some (decide (v43 = nI 32)) else some false) = some (decide (r = L ∧ mtb (mSt q + r) = 32)) := by
      rw [nadd]
      by_cases hr : r = L
      · have hv : N 318 (mSt q + r) = nI (mtb (mSt q + r)) := hW _ (by omega)
        rw [if_pos (by rw [hr]), nadd, hms, nadd, ra_ok (by omega) (by omega), ob1_ok, hv]
        congr 1
        exact decide_eq_decide.mpr ⟨fun h => ⟨hr, (nI_inj (by omega) (by omega)).mp h⟩, fun h => by rw [h.2]⟩
      · rw [if_neg (eF (by omega) (by omega) (by omega)), decide_eq_false (fun h => hr h.1)]
    rw [ek, L_Mod_wordAt_1, if_pos (lT hkt (by omega)), r3, ob1_ok, hcond, ob1_ok, hq1]
    by_cases hm : r = L ∧ mtb (mSt q + r) = 32
    · rw [decide_eq_true hm, if_pos rfl]
      obtain ⟨m1, m2⟩ := hm
      subst m1
      have hLq : mLn q = r := by
        by_cases h1 : r < mLn q
        · exact absurd m2 (e6 r h1)
        · by_cases h2 : mLn q < r
          · have h3 := r4 (mLn q) h2
            rw [e4] at h3
            exact absurd h3.symm (hl _ h2)
          · omega
      exact ⟨nI q, rfl, Or.inl ⟨q, hq29, rfl, hLq, (eqB_iff r).mpr r4⟩⟩
    · rw [decide_eq_false hm, if_neg Bool.false_ne_true, nadd, hms, w3, ob1_ok, ← hq2]
      refine ⟨x, g1, g2.elim Or.inl (fun g => Or.inr ⟨g.1, fun k h1 h2 h3 => ?_⟩)⟩
      by_cases e : k = q
      · subst e
        obtain ⟨m1, m2⟩ := h3
        have hall := (eqB_iff L).mp m2
        have hrL : r = L := by
          rcases r5 with h | h
          · exact h
          · by_cases h' : r = L
            · exact h'
            · exact absurd (hall r (by omega)) h
        exact hm ⟨hrL, by rw [hrL, ← m1]; exact e4⟩
      · exact g.2 k (by omega) h2 h3
/-- the model's number of a word of the tape -/
theorem mm_word (hz : 1000 ≤ z) (hT : TB M N n tp) (hW : WT N) {a L : Nat} (ha : a + L ≤ n) (hl : ∀ j, j < L → tp (a + j) ≠ 32) : ∃ r, F_Mod_wordAt z (nI a) (nI (a + L)) N = some r ∧ ((∃ k, k < 29 ∧ r = nI k ∧ mtW tp a L k) ∨ (r = -1 ∧ ∀ k, k < 29 → ¬ mtW tp a L k)) := by
  obtain ⟨r, g1, g2⟩ := l_word1 (z := z) hz hT hW ha hl 29 0 z (by omega) (by omega)
  refine ⟨r, ?_, g2.elim Or.inl (fun g => Or.inr ⟨g.1, fun k h => g.2 k (Nat.zero_le _) h⟩)⟩
  have e0 : nI 0 - nI 1 = (-1 : Int32) := by decide
  have e1 : kpW 0 = 0 := by decide
  rw [e0, e1] at g1
  exact g1
theorem mt_sam {f L k : Nat} (hk : k < 29) : (cLn k = L ∧ eqB ctb (cSt k) tp f L = true) ↔ mtW tp f L (pmW k) := by
  obtain ⟨s1, s2, s3⟩ := samW k hk
  constructor
  · rintro ⟨h1, h2⟩
    refine ⟨by rw [← s2]; exact h1, (eqB_iff L).mpr (fun j hj => ?_)⟩
    rw [← s3 j (by omega)]
    exact (eqB_iff L).mp h2 j hj
  · rintro ⟨h1, h2⟩
    refine ⟨by rw [s2]; exact h1, (eqB_iff L).mpr (fun j hj => ?_)⟩
    rw [s3 j (by omega)]
    exact (eqB_iff L).mp h2 j hj
theorem mt_one {f L q q' : Nat} (hq : q < 29) (hq' : q' < 29) (h : mtW tp f L q) (h' : mtW tp f L q') : q = q' := by
  by_cases e : q = q'
  · exact e
  · exfalso
    obtain ⟨h1, h2⟩ := h
    obtain ⟨g1, g2⟩ := h'
    rcases difW q hq q' hq' e with d | ⟨j, hj, d⟩
    · omega
    · exact d (((eqB_iff L).mp h2 j (by omega)).trans ((eqB_iff L).mp g2 j (by omega)).symm)
/-- both find the same word -/
theorem b_word (hz : 1000 ≤ z) (hT : TB M N n tp) (hW : WT N) {f L : Nat} (hf : f + L ≤ n) (hl : ∀ j, j < L → tp (f + j) ≠ 32) : (F_Reader_wordAt z (nI f) (nI (f + L)) M = some (-1) ∧ F_Mod_wordAt z (nI f) (nI (f + L)) N = some (-1)) ∨ ∃ k, k < 29 ∧ F_Reader_wordAt z (nI f) (nI (f + L)) M = some (nI k) ∧ F_Mod_wordAt z (nI f) (nI (f + L)) N = some (nI (pmW k)) := by
  obtain ⟨r, a1, a2⟩ := cw_word (z := z) hz hT hf
  obtain ⟨r', b1, b2⟩ := mm_word (z := z) hz hT hW hf hl
  rcases a2 with ⟨k, k1, k2, k3⟩ | ⟨k2, k3⟩
  · right
    have hm := (mt_sam (tp := tp) (f := f) (L := L) k1).mp k3
    have hp := (samW k k1).1
    refine ⟨k, k1, by rw [a1, k2], ?_⟩
    rcases b2 with ⟨q, q1, q2, q3⟩ | ⟨q2, q3⟩
    · rw [b1, q2, mt_one q1 hp q3 hm]
    · exact absurd hm (q3 _ hp)
  · left
    refine ⟨by rw [a1, k2], ?_⟩
    rcases b2 with ⟨q, q1, q2, q3⟩ | ⟨q2, q3⟩
    · obtain ⟨k, h1, h2⟩ := surW q q1
      rw [← h2] at q3
      exact absurd ((mt_sam h1).mpr q3) (k3 k h1)
    · rw [b1, q2]
end S95
