/-! ===== one token, both ways ===== -/
/-- a number of digits from p on -/
def nvN (tp : Nat → Nat) (n : Nat) : Nat → Nat → Nat → Nat
  | 0, _, v => v
  | m + 1, p, v => if p < n ∧ isDig (tp p) = true then nvN tp n m (p + 1) (10 * v + (tp p - 48)) else v
def kwW (tp : Nat → Nat) (f L : Nat) : Option Nat := fi (fun k => decide (cLn k = L) && eqB ctb (cSt k) tp f L) 29 0
/-- kind (0 end, 1 bad, 2 number, 3 keyword, 4 sign), value, where it ends -/
def tokN (tp : Nat → Nat) (n p : Nat) : Nat × Nat × Nat :=
  if n ≤ p then (0, 0, n)
  else if isLet (tp p) = true then (match kwW tp p (rE isLet tp n (n - (p + 1)) (p + 1) - p) with
    | some k => (3, k, rE isLet tp n (n - (p + 1)) (p + 1))
    | none => (1, 0, rE isLet tp n (n - (p + 1)) (p + 1)))
  else if isDig (tp p) = true then (if rE isDig tp n (n - (p + 1)) (p + 1) - p ≤ 4 then (2, nvN tp n (n - (p + 1)) (p + 1) (tp p - 48), rE isDig tp n (n - (p + 1)) (p + 1)) else (1, 0, rE isDig tp n (n - (p + 1)) (p + 1)))
  else if isSgn (tp p) = true then (4, tp p, p + 1) else (1, 0, p + 1)
theorem pmW_inj : ∀ k, k < 29 → ∀ k', k' < 29 → pmW k = pmW k' → k = k' := by decide +kernel
theorem dig_rng {b : Nat} (h : isDig b = true) : 48 ≤ b ∧ b ≤ 57 := by
  unfold isDig at h
  rw [Bool.and_eq_true] at h
  exact ⟨Nat.le_of_ble_eq_true h.1, Nat.le_of_ble_eq_true h.2⟩
section S97
variable {z n : Nat} {M N : mM} {tp : Nat → Nat}
/-- both find the same word, by one name -/
theorem b_word2 (hz : 1000 ≤ z) (hT : TB M N n tp) (hW : WT N) {f L : Nat} (hf : f + L ≤ n) (hl : ∀ j, j < L → tp (f + j) ≠ 32) : (kwW tp f L = none ∧ F_Reader_wordAt z (nI f) (nI (f + L)) M = some (-1) ∧ F_Mod_wordAt z (nI f) (nI (f + L)) N = some (-1)) ∨ ∃ k, k < 29 ∧ kwW tp f L = some k ∧ F_Reader_wordAt z (nI f) (nI (f + L)) M = some (nI k) ∧ F_Mod_wordAt z (nI f) (nI (f + L)) N = some (nI (pmW k)) := by
  obtain ⟨r, a1, a2⟩ := cw_word (z := z) hz hT hf
  have hb := b_word (z := z) hz hT hW hf hl
  rw [a1] at hb
  rcases a2 with ⟨k, k1, k2, k3⟩ | ⟨k2, k3⟩
  · right
    have hkw : kwW tp f L = some k := fi_of k1 (by rw [decide_eq_true k3.1, k3.2]; rfl) (fun j hj h => by
      rw [Bool.and_eq_true, decide_eq_true_eq] at h
      exact pmW_inj j hj k k1 (mt_one (samW j hj).1 (samW k k1).1 ((mt_sam hj).mp h) ((mt_sam k1).mp k3)))
    rcases hb with ⟨h1, h2⟩ | ⟨k', h0, h1, h2⟩
    · rw [k2] at h1
      exact absurd (Option.some.inj h1) (mF (by omega))
    · rw [k2] at h1
      have e := (nI_inj (by omega) (by omega)).mp (Option.some.inj h1)
      subst e
      exact ⟨k, k1, hkw, by rw [a1, k2], h2⟩
  · left
    have hkw : kwW tp f L = none := fi_no (fun j hj => by
      cases e : (decide (cLn j = L) && eqB ctb (cSt j) tp f L) with
      | false => rfl
      | true =>
        rw [Bool.and_eq_true, decide_eq_true_eq] at e
        exact absurd e (k3 j hj))
    rcases hb with ⟨h1, h2⟩ | ⟨k', h0, h1, h2⟩
    · exact ⟨hkw, by rw [a1, k2], h2⟩
    · rw [k2] at h1
      exact absurd (Option.some.inj h1).symm (mF (by omega))
theorem l_cdig (hT : TB M N n tp) (h1 : M 100 1 = nI n) {f : Nat} : ∀ (m p y : Nat) (v : Int32) (w : Nat), p + m = n → m < y → (p ≤ f + 4 → v = nI w) → ∃ v', L_Reader_token_2 z M y (nI p) v = some (nI (rE isDig tp n m p), v') ∧ (rE isDig tp n m p ≤ f + 4 → v' = nI (nvN tp n m p w)) := by
  obtain ⟨h4, hb⟩ := hT
  intro m
  induction m with
  | zero =>
    intro p y v w hp hy hv
    obtain ⟨y, rfl⟩ : ∃ k, y = k + 1 := ⟨y - 1, by omega⟩
    rw [L_Reader_token_2, h1, if_neg (lF (by omega) (by omega)), ob1_ok, if_neg Bool.false_ne_true]
    exact ⟨v, rfl, hv⟩
  | succ m ih =>
    intro p y v w hp hy hv
    obtain ⟨y, rfl⟩ : ∃ k, y = k + 1 := ⟨y - 1, by omega⟩
    obtain ⟨b1, b2, b3⟩ := hb p (by omega)
    rw [L_Reader_token_2, h1, if_pos (lT (by omega) (by omega)), ra_ok (by omega) (by omega), ob1_ok, ob1_ok, b2, (by_ok b1).2.2.1, rE, nvN]
    by_cases h : isDig (tp p) = true
    · obtain ⟨d1, d2⟩ := dig_rng h
      rw [if_pos h, if_pos ⟨by omega, h⟩, if_pos ⟨by omega, h⟩, ob1_ok, ob1_ok, nadd]
      refine ih (p + 1) y _ _ (by omega) (by omega) (fun hle => ?_)
      rw [hv (by omega), nmul, nadd, nsb (by omega)]
      congr 1
      omega
    · rw [if_neg h, if_neg (fun h' => h h'.2), if_neg (fun h' => h h'.2)]
      exact ⟨v, rfl, hv⟩
theorem l_mdig {f : Nat} : ∀ (m p y : Nat) (w : Nat) (N : mM), TB M N n tp → N 312 8 = nI n → N 312 9 = nI p → p + m = n → m < y → f + 1 ≤ p → (p ≤ f + 4 → N 312 12 = nI w ∧ w < 10 ^ (p - f)) →
    ∃ N', L_Mod_reads_2 z y N = some N' ∧ N' 312 9 = nI (rE isDig tp n m p) ∧ (rE isDig tp n m p ≤ f + 4 → N' 312 12 = nI (nvN tp n m p w)) ∧ (∀ c', c' ≠ 312 → N' c' = N c') ∧ ∀ j, j ≠ 9 → j ≠ 12 → N' 312 j = N 312 j := by
  intro m
  induction m with
  | zero =>
    intro p y w N hT h8 h9 hp hy hfp hv
    obtain ⟨y, rfl⟩ : ∃ k, y = k + 1 := ⟨y - 1, by omega⟩
    have ep : p = n := by omega
    subst ep
    rw [L_Mod_reads_2, h9, raw_end hT h8, ob1_ok, ob1_ok, by_end.2, if_neg Bool.false_ne_true]
    exact ⟨N, rfl, h9, fun h => (hv h).1, fun _ _ => rfl, fun _ _ _ => rfl⟩
  | succ m ih =>
    intro p y w N hT h8 h9 hp hy hfp hv
    obtain ⟨y, rfl⟩ : ∃ k, y = k + 1 := ⟨y - 1, by omega⟩
    obtain ⟨b1, b2, b3⟩ := hT.2 p (by omega)
    rw [L_Mod_reads_2, h9, raw_n hT h8 (by omega), ob1_ok, ob1_ok, (by_ok b1).2.2.2.1, rE, nvN]
    by_cases h : isDig (tp p) = true
    · obtain ⟨d1, d2⟩ := dig_rng h
      obtain ⟨x, hx⟩ : ∃ x, (if N 312 12 < nI 10000 then ob1 (some (nI (tp p))) fun v77 => some (nI 10 * N 312 12 + v77 - nI 48) else some (N 312 12)) = some x := by
        split
        · exact ⟨_, rfl⟩
        · exact ⟨_, rfl⟩
      have hxv : p + 1 ≤ f + 4 → x = nI (10 * w + (tp p - 48)) ∧ 10 * w + (tp p - 48) < 10 ^ (p + 1 - f) := fun hle => by
        obtain ⟨v1, v2⟩ := hv (by omega)
        have hw : w < 1000 := by
          have h3 : 10 ^ (p - f) ≤ 10 ^ 3 := Nat.pow_le_pow_right (by omega) (by omega)
          omega
        rw [v1, if_pos (lT (by omega) (by omega)), ob1_ok] at hx
        cases hx
        refine ⟨?_, ?_⟩
        · rw [nmul, nadd, nsb (by omega)]
          congr 1
          omega
        · rw [show p + 1 - f = p - f + 1 by omega, Nat.pow_succ]
          omega
      obtain ⟨N', g1, g2, g3, g4, g5⟩ := ih (p + 1) y (10 * w + (tp p - 48)) (up (up N 312 12 x) 312 9 (nI (p + 1))) (TB_N hT (by rw [upC (by omega), upC (by omega)])) (by rw [up_neJ _ _ _ (by omega), up_neJ _ _ _ (by omega)]; exact h8) (up_same _ _ _ _) (by omega) (by omega) (by omega) (fun hle => by
        rw [up_neJ _ _ _ (by omega), up_same]
        exact hxv hle)
      refine ⟨N', ?_, ?_, ?_, fun c' hc => by rw [g4 c' hc, upC hc, upC hc], fun j a b => by rw [g5 j a b, up_neJ _ _ _ a, up_neJ _ _ _ b]⟩
      · rw [if_pos h, hx, ob1_ok, ob1_ok, up_neJ _ _ _ (by omega), h9, nadd, ob1_ok]
        exact g1
      · rw [if_pos ⟨by omega, h⟩]; exact g2
      · rw [if_pos ⟨by omega, h⟩, if_pos ⟨by omega, h⟩]; exact g3
    · rw [if_neg h, if_neg (fun h' => h h'.2), if_neg (fun h' => h h'.2)]
      exact ⟨N, rfl, h9, fun h => (hv h).1, fun _ _ => rfl, fun _ _ _ => rfl⟩
/-- the class's entry i -/
def CE (M : mM) (i : Nat) (t : Nat × Nat × Nat) (pl : Nat) : Prop := M 105 i = nI t.1 ∧ M 107 i = nI pl ∧ (2 ≤ t.1 → M 106 i = nI t.2.1)
/-- the model's token at hand -/
def ME (N : mM) (t : Nat × Nat × Nat) (pl : Nat) : Prop :=
  N 312 11 = nI (if t.1 = 2 then 3 else if t.1 = 3 then 2 else t.1) ∧ N 312 10 = nI pl ∧ N 312 9 = nI t.2.2 ∧ (2 ≤ t.1 → N 312 12 = nI (if t.1 = 3 then pmW t.2.1 else t.2.1))
theorem ce_add {i : Nat} (hi : i ≤ 400) (h10 : M 100 10 = nI i) (a b c : Int32) : ∃ M', F_Reader_addToken a b c M = some M' ∧ M' 105 i = a ∧ M' 106 i = b ∧ M' 107 i = c ∧ M' 100 10 = nI (i + 1) ∧ (∀ c' j, (c' = 105 ∨ c' = 106 ∨ c' = 107) → j ≠ i → M' c' j = M c' j) ∧ (∀ c', c' ≠ 100 → c' ≠ 105 → c' ≠ 106 → c' ≠ 107 → M' c' = M c') ∧ ∀ j, j ≠ 10 → M' 100 j = M 100 j := by
  refine ⟨up (up (up (up M 105 i a) 106 i b) 107 i c) 100 10 (nI (i + 1)), ?_, ?_, ?_, ?_, up_same _ _ _ _, fun c' j h1 h2 => ?_, fun c' h1 h2 h3 h4 => by rw [upC h1, upC h4, upC h3, upC h2], fun j h => by rw [up_neJ _ _ _ h, up_neC _ _ _ _ (by omega), up_neC _ _ _ _ (by omega), up_neC _ _ _ _ (by omega)]⟩
  · unfold F_Reader_addToken
    rw [h10, if_pos (lF (by omega) (by omega)), wa_ok (by omega) (by omega), ob1_ok, up_neC _ _ _ _ (by omega), h10, wa_ok (by omega) (by omega), ob1_ok, up_neC _ _ _ _ (by omega), up_neC _ _ _ _ (by omega), h10, wa_ok (by omega) (by omega), ob1_ok, up_neC _ _ _ _ (by omega), up_neC _ _ _ _ (by omega), up_neC _ _ _ _ (by omega), h10, nadd, ob1_ok]
  · rw [up_neC _ _ _ _ (by omega), up_neC _ _ _ _ (by omega), up_neC _ _ _ _ (by omega), up_same]
  · rw [up_neC _ _ _ _ (by omega), up_neC _ _ _ _ (by omega), up_same]
  · rw [up_neC _ _ _ _ (by omega), up_same]
  · rw [up_neC _ _ _ _ (by omega)]
    rcases h1 with rfl | rfl | rfl
    · rw [up_neC _ _ _ _ (by omega), up_neC _ _ _ _ (by omega), up_neJ _ _ _ h2]
    · rw [up_neC _ _ _ _ (by omega), up_neJ _ _ _ h2, up_neC _ _ _ _ (by omega)]
    · rw [up_neJ _ _ _ h2, up_neC _ _ _ _ (by omega), up_neC _ _ _ _ (by omega)]
end S97
