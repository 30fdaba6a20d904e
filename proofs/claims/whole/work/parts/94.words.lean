/-! ===== keywords: both readers find the same word ===== -/
def cTab : List Nat := [115, 116, 105, 99, 107, 115, 32, 102, 114, 101, 101, 115, 32, 115, 108, 105, 100, 101, 115, 32, 119, 104, 101, 110, 32, 111, 114, 32, 97, 110, 100, 32, 110, 111, 116, 32, 107, 105, 110, 100, 32, 115, 105, 122, 101, 32, 108, 105, 102, 101, 32, 105, 110, 99, 104, 32, 103, 108, 117, 101, 32, 97, 103, 101, 32, 108, 105, 109, 98, 115, 32, 119, 105, 110, 100, 32, 104, 101, 97, 116, 32, 110, 101, 97, 114, 32, 100, 97, 121, 32, 111, 110, 32, 97, 116, 32, 102, 108, 121, 32, 100, 97, 116, 101, 32, 115, 108, 101, 101, 118, 101, 32, 119, 111, 114, 100, 32, 119, 97, 115, 112, 32, 118, 101, 105, 108, 32, 98, 111, 105, 108, 32, 100, 114, 121, 32, 115, 116, 114, 105, 112, 32]
def ctb (j : Nat) : Nat := cTab.getD j 0
def mtb (j : Nat) : Nat := wTab.getD j 0
/-- where word k begins in the class's text, how long it is; the same in the model's row -/
def cSt (k : Nat) : Nat := ([0, 7, 13, 20, 25, 28, 32, 36, 41, 46, 51, 56, 61, 65, 71, 76, 81, 86, 90, 93, 96, 100, 105, 112, 117, 122, 127, 132, 136] : List Nat).getD k 0
def cLn (k : Nat) : Nat := ([6, 5, 6, 4, 2, 3, 3, 4, 4, 4, 4, 4, 3, 5, 4, 4, 4, 3, 2, 2, 3, 4, 6, 4, 4, 4, 4, 3, 5] : List Nat).getD k 0
def mSt (k : Nat) : Nat := ([1, 8, 14, 21, 26, 29, 33, 37, 42, 47, 52, 57, 62, 66, 72, 77, 82, 87, 91, 94, 98, 103, 110, 115, 120, 125, 128, 133, 137] : List Nat).getD k 0
def mLn (k : Nat) : Nat := ([6, 5, 6, 4, 2, 3, 3, 4, 4, 4, 4, 4, 3, 5, 4, 4, 4, 3, 2, 3, 4, 6, 4, 4, 4, 2, 4, 3, 5] : List Nat).getD k 0
/-- the model's number of the class's word k -/
def pmW (k : Nat) : Nat := if k = 19 then 25 else if 20 ≤ k ∧ k ≤ 25 then k - 1 else k
theorem xW0_n : ∀ j, j < 142 → xW0 j = nI (ctb j) := by decide +kernel
def eqB (tb : Nat → Nat) (s : Nat) (tp : Nat → Nat) (f : Nat) : Nat → Bool
  | 0 => true
  | j + 1 => eqB tb s tp f j && Nat.beq (tb (s + j)) (tp (f + j))
theorem eqB_iff {tb : Nat → Nat} {s : Nat} {tp : Nat → Nat} {f : Nat} : ∀ n, eqB tb s tp f n = true ↔ ∀ j, j < n → tb (s + j) = tp (f + j) := by
  intro n
  induction n with
  | zero => exact ⟨fun _ j hj => absurd hj (Nat.not_lt_zero j), fun _ => rfl⟩
  | succ n ih =>
    rw [eqB, Bool.and_eq_true, ih, Nat.beq_eq]
    constructor
    · intro h j hj
      by_cases e : j = n
      · rw [e]; exact h.2
      · exact h.1 j (by omega)
    · intro h
      exact ⟨fun j hj => h j (by omega), h n (by omega)⟩
def wnC : Nat → Nat
  | 0 => 0
  | i + 1 => if ctb i = 32 then wnC i + 1 else wnC i
def wsC : Nat → Nat
  | 0 => 0
  | i + 1 => if ctb i = 32 then i + 1 else wsC i
theorem posC : ∀ i, i < 142 → ctb i = 32 → wnC i < 29 ∧ cSt (wnC i) = wsC i ∧ wsC i + cLn (wnC i) = i := by decide +kernel
theorem wsC_le : ∀ i, i < 143 → wsC i ≤ i := by decide +kernel
theorem wrdC : ∀ k, k < 29 → cSt k + cLn k < 142 ∧ ctb (cSt k + cLn k) = 32 ∧ wnC (cSt k + cLn k) = k := by decide +kernel
theorem samW : ∀ k, k < 29 → pmW k < 29 ∧ cLn k = mLn (pmW k) ∧ ∀ j, j < cLn k → ctb (cSt k + j) = mtb (mSt (pmW k) + j) := by decide +kernel
theorem surW : ∀ n, n < 29 → ∃ k, k < 29 ∧ pmW k = n := by decide +kernel
theorem difW : ∀ n, n < 29 → ∀ n', n' < 29 → n ≠ n' → mLn n ≠ mLn n' ∨ ∃ j, j < mLn n ∧ mtb (mSt n + j) ≠ mtb (mSt n' + j) := by decide +kernel
section S94
variable {z n : Nat} {M N : mM} {tp : Nat → Nat}
/-- both tapes hold the bytes tp -/
def TB (M N : mM) (n : Nat) (tp : Nat → Nat) : Prop := n ≤ 400 ∧ ∀ j, j < n → tp j < 256 ∧ M 101 j = nI (tp j) ∧ N 317 j = nI (tp j)
theorem cw_stands (hT : TB M N n tp) {s f L : Nat} (hs : s + L ≤ 142) (hf : f + L ≤ n) : ∀ (m j y : Nat), j + m = L → m < y → eqB ctb s tp f j = true → L_Reader_stands_1 z (nI s) (nI f) (nI (f + L)) M (some true) y (nI (f + j)) = some (eqB ctb s tp f L) := by
  obtain ⟨h4, hb⟩ := hT
  have cb : ∀ j, j < 142 → ctb j < 256 := by decide +kernel
  intro m
  induction m with
  | zero =>
    intro j y hj hy h
    obtain ⟨y, rfl⟩ : ∃ k, y = k + 1 := ⟨y - 1, by omega⟩
    have ej : j = L := by omega
    subst ej
    rw [L_Reader_stands_1, if_neg (lF (by omega) (by omega)), h]
  | succ m ih =>
    intro j y hj hy h
    obtain ⟨y, rfl⟩ : ∃ k, y = k + 1 := ⟨y - 1, by omega⟩
    obtain ⟨b1, b2, b3⟩ := hb (f + j) (by omega)
    have b4 := cb (s + j) (by omega)
    unfold chA0 at *
    rw [L_Reader_stands_1, if_pos (lT (by omega) (by omega)), nadd, nsb (by omega), show s + (f + j) - f = s + j by omega]
    unfold chA0
    rw [rxs_ok (by omega) (by omega), ob1_ok, ra_ok (by omega) (by omega), ob1_ok, ob1_ok, xW0_n _ (by omega), b2, nadd]
    by_cases e : ctb (s + j) = tp (f + j)
    · rw [e, decide_eq_false (fun h => h rfl), if_neg Bool.false_ne_true]
      exact ih (j + 1) y (by omega) (by omega) (by rw [eqB, h, beq_iff.mpr e]; rfl)
    · rw [decide_eq_true (eF e (by omega) (by omega)), if_pos rfl]
      cases hh : eqB ctb s tp f L with
      | false => rfl
      | true => exact absurd ((eqB_iff L).mp hh j (by omega)) e
theorem l_wordC (hz : 1000 ≤ z) (hT : TB M N n tp) {f L : Nat} (hf : f + L ≤ n) : ∀ (m i y : Nat), i + m = 142 → m < y → (∃ r, L_Reader_wordAt_1 z (nI f) (nI (f + L)) M (fun _ _ => some (-1)) y (nI (wnC i)) (nI (wsC i)) (nI i) = some r ∧
      ((∃ k, k < 29 ∧ r = nI k ∧ cLn k = L ∧ eqB ctb (cSt k) tp f L = true) ∨ (r = -1 ∧ ∀ i', i ≤ i' → i' < 142 → ctb i' = 32 → ¬ (i' - wsC i' = L ∧ eqB ctb (wsC i') tp f L = true)))) := by
  have cb : ∀ j, j < 142 → ctb j < 256 := by decide +kernel
  have h4 := hT.1
  intro m
  induction m with
  | zero =>
    intro i y hi hy
    obtain ⟨y, rfl⟩ : ∃ k, y = k + 1 := ⟨y - 1, by omega⟩
    rw [L_Reader_wordAt_1, ob1_ok, decide_eq_false (lF (by omega) (by omega)), if_neg Bool.false_ne_true]
    exact ⟨-1, rfl, Or.inr ⟨rfl, fun i' h1 h2 => by omega⟩⟩
  | succ m ih =>
    intro i y hi hy
    obtain ⟨y, rfl⟩ : ∃ k, y = k + 1 := ⟨y - 1, by omega⟩
    have hi142 : i < 142 := by omega
    have b4 := cb i hi142
    have hws := wsC_le i (by omega)
    rw [L_Reader_wordAt_1, ob1_ok, decide_eq_true (lT (by omega) (by omega)), if_pos rfl, jn_eq]
    unfold chA0
    rw [rxs_ok hi142 (by omega), ob1_ok, ob1_ok, xW0_n _ hi142]
    have next := ih (i + 1) y (by omega) (by omega)
    by_cases hb : ctb i = 32
    · have en : wnC (i + 1) = wnC i + 1 := by rw [wnC, if_pos hb]
      have es : wsC (i + 1) = i + 1 := by rw [wsC, if_pos hb]
      rw [en, es] at next
      obtain ⟨p1, p2, p3⟩ := posC i hi142 hb
      rw [hb, decide_eq_true rfl, if_pos rfl, nsb hws, nsb (by omega), Nat.add_sub_cancel_left]
      have go : ¬ (i - wsC i = L ∧ eqB ctb (wsC i) tp f L = true) → ∃ r, L_Reader_wordAt_1 z (nI f) (nI (f + L)) M (fun _ _ => some (-1)) y (nI (wnC i) + nI 1) (nI i + nI 1) (nI i + nI 1) = some r ∧ ((∃ k, k < 29 ∧ r = nI k ∧ cLn k = L ∧ eqB ctb (cSt k) tp f L = true) ∨ (r = -1 ∧ ∀ i', i ≤ i' → i' < 142 → ctb i' = 32 → ¬ (i' - wsC i' = L ∧ eqB ctb (wsC i') tp f L = true))) := fun hno => by
        rw [nadd, nadd]
        obtain ⟨r, g1, g2⟩ := next
        refine ⟨r, g1, g2.elim Or.inl (fun g => Or.inr ⟨g.1, fun i' h1 h2 h3 => ?_⟩)⟩
        by_cases e : i' = i
        · rw [e]; exact hno
        · exact g.2 i' (by omega) h2 h3
      by_cases hl : i - wsC i = L
      · have hst := cw_stands (z := z) (s := wsC i) (f := f) (L := L) hT (by omega) hf L 0 z (by omega) (by omega) rfl
        rw [Nat.add_zero] at hst
        unfold F_Reader_stands
        rw [hl, if_pos rfl, hst, ob1_ok, ob1_ok]
        cases hq : eqB ctb (wsC i) tp f L with
        | true =>
          rw [if_pos rfl]
          exact ⟨_, rfl, Or.inl ⟨wnC i, p1, rfl, by omega, by rw [p2]; exact hq⟩⟩
        | false =>
          rw [if_neg Bool.false_ne_true]
          exact go (fun h => by rw [hq] at h; exact absurd h.2 Bool.false_ne_true)
      · rw [if_neg (eF hl (by omega) (by omega)), ob1_ok, if_neg Bool.false_ne_true]
        exact go (fun h => hl h.1)
    · have en : wnC (i + 1) = wnC i := by rw [wnC, if_neg hb]
      have es : wsC (i + 1) = wsC i := by rw [wsC, if_neg hb]
      rw [en, es] at next
      rw [decide_eq_false (eF hb (by omega) (by omega)), if_neg Bool.false_ne_true, nadd]
      obtain ⟨r, g1, g2⟩ := next
      refine ⟨r, g1, g2.elim Or.inl (fun g => Or.inr ⟨g.1, fun i' h1 h2 h3 => ?_⟩)⟩
      have : i' ≠ i := fun e => hb (by rw [← e]; exact h3)
      exact g.2 i' (by omega) h2 h3
/-- the class's number of a word of the tape -/
theorem cw_word (hz : 1000 ≤ z) (hT : TB M N n tp) {f L : Nat} (hf : f + L ≤ n) : ∃ r, F_Reader_wordAt z (nI f) (nI (f + L)) M = some r ∧ ((∃ k, k < 29 ∧ r = nI k ∧ cLn k = L ∧ eqB ctb (cSt k) tp f L = true) ∨ (r = -1 ∧ ∀ k, k < 29 → ¬ (cLn k = L ∧ eqB ctb (cSt k) tp f L = true))) := by
  obtain ⟨r, g1, g2⟩ := l_wordC (z := z) hz hT hf 142 0 z (by omega) (by omega)
  refine ⟨r, g1, g2.elim Or.inl (fun g => Or.inr ⟨g.1, fun k hk h => ?_⟩)⟩
  obtain ⟨w1, w2, w3⟩ := wrdC k hk
  obtain ⟨p1, p2, p3⟩ := posC _ w1 w2
  rw [w3] at p2
  exact g.2 _ (Nat.zero_le _) w1 w2 ⟨by rw [← p2]; omega, by rw [← p2]; exact h.2⟩
end S94
