/-! ===== the token at hand, both ways: steps, words, signs, numbers ===== -/
section SA0
variable {z n t i : Nat} {M N : mM} {tp : Nat → Nat}
theorem nv_lt {f : Nat} : ∀ (m p w : Nat), f + 1 ≤ p → (p ≤ f + 4 → w < 10 ^ (p - f)) → rE isDig tp n m p ≤ f + 4 → nvN tp n m p w < 10000 := by
  intro m
  induction m with
  | zero =>
    intro p w hf hw hr
    have hr' : p ≤ f + 4 := hr
    have h1 := hw hr'
    have h2 : 10 ^ (p - f) ≤ 10 ^ 4 := Nat.pow_le_pow_right (by omega) (by omega)
    show w < 10000
    omega
  | succ m ih =>
    intro p w hf hw hr
    rw [rE] at hr
    rw [nvN]
    by_cases h : p < n ∧ isDig (tp p) = true
    · rw [if_pos h] at hr ⊢
      obtain ⟨d1, d2⟩ := dig_rng h.2
      refine ih (p + 1) _ (by omega) (fun hle => ?_) hr
      have h1 := hw (by omega)
      rw [show p + 1 - f = p - f + 1 by omega, Nat.pow_succ]
      omega
    · rw [if_neg h] at hr ⊢
      have h1 := hw hr
      have h2 : 10 ^ (p - f) ≤ 10 ^ 4 := Nat.pow_le_pow_right (by omega) (by omega)
      omega
/-- what a token can be -/
theorem tok_rng (hb : ∀ j, j < n → tp j < 256) {p : Nat} (hp : p ≤ n) : (tokN tp n p).1 ≤ 4 ∧ (tokN tp n p).2.2 ≤ n ∧ ((tokN tp n p).1 = 2 → (tokN tp n p).2.1 < 10000) ∧ ((tokN tp n p).1 = 3 → (tokN tp n p).2.1 < 29) ∧ ((tokN tp n p).1 = 4 → (tokN tp n p).2.1 < 256) ∧ ((tokN tp n p).1 = 0 → p = n) := by
  unfold tokN
  by_cases hn : n ≤ p
  · rw [if_pos hn]
    exact ⟨(by show 0 ≤ 4; omega), Nat.le_refl _, fun h => (by cases h), fun h => (by cases h), fun h => (by cases h), fun _ => by omega⟩
  · rw [if_neg hn]
    by_cases hl : isLet (tp p) = true
    · rw [if_pos hl]
      have hr := (rE_rng (q := isLet) (tp := tp) (n := n) (n - (p + 1)) (p + 1) (by omega)).2.1
      cases hk : kwW tp p (rE isLet tp n (n - (p + 1)) (p + 1) - p) with
      | none => exact ⟨(by show 1 ≤ 4; omega), hr, fun h => (by cases h), fun h => (by cases h), fun h => (by cases h), fun h => (by cases h)⟩
      | some k =>
        have hk29 : k < 29 := by
          obtain ⟨-, h, -⟩ := fi_some hk
          omega
        exact ⟨(by show 3 ≤ 4; omega), hr, fun h => (by cases h), fun _ => hk29, fun h => (by cases h), fun h => (by cases h)⟩
    · rw [if_neg hl]
      by_cases hd : isDig (tp p) = true
      · rw [if_pos hd]
        obtain ⟨d1, d2⟩ := dig_rng hd
        have hr := rE_rng (q := isDig) (tp := tp) (n := n) (n - (p + 1)) (p + 1) (by omega)
        by_cases h4 : rE isDig tp n (n - (p + 1)) (p + 1) - p ≤ 4
        · rw [if_pos h4]
          refine ⟨(by show 2 ≤ 4; omega), hr.2.1, fun _ => ?_, fun h => (by cases h), fun h => (by cases h), fun h => (by cases h)⟩
          exact nv_lt (f := p) (n - (p + 1)) (p + 1) (tp p - 48) (Nat.le_refl _) (fun _ => by rw [Nat.add_sub_cancel_left]; omega) (by omega)
        · rw [if_neg h4]
          exact ⟨(by show 1 ≤ 4; omega), hr.2.1, fun h => (by cases h), fun h => (by cases h), fun h => (by cases h), fun h => (by cases h)⟩
      · rw [if_neg hd]
        by_cases hs : isSgn (tp p) = true
        · rw [if_pos hs]
          exact ⟨Nat.le_refl _, (by show p + 1 ≤ n; omega), fun h => (by cases h), fun h => (by cases h), fun _ => hb p (by omega), fun h => (by cases h)⟩
        · rw [if_neg hs]
          exact ⟨(by show 1 ≤ 4; omega), (by show p + 1 ≤ n; omega), fun h => (by cases h), fun h => (by cases h), fun h => (by cases h), fun h => (by cases h)⟩
theorem sk_le {q : Nat} (h : q ≤ n) : skN tp n q ≤ n := (rE_rng (q := isBl) (tp := tp) (n := n) (n - q) q h).2.1
theorem ps_le (hb : ∀ j, j < n → tp j < 256) : ∀ i, psN tp n i ≤ n := by
  intro i
  induction i with
  | zero => exact sk_le (Nat.zero_le _)
  | succ i ih => exact sk_le (tok_rng hb ih).2.1
abbrev tkA (tp : Nat → Nat) (n i : Nat) : Nat × Nat × Nat := tokN tp n (psN tp n i)
/-- both stand at token i -/
def PZ (tp : Nat → Nat) (n t i : Nat) (M N : mM) : Prop := SP M tp n t ∧ i ≤ t ∧ M 100 11 = nI i ∧ ME N (tkA tp n i) (psN tp n i) ∧ TB M N n tp ∧ WT N ∧ N 312 8 = nI n ∧ M 100 2 = nI 0 ∧ M 100 3 = -1
theorem PZ_b (h : PZ tp n t i M N) : ∀ j, j < n → tp j < 256 := fun j hj => (h.2.2.2.2.1.2 j hj).1
theorem PZ_r (h : PZ tp n t i M N) : (tkA tp n i).1 ≤ 4 ∧ (tkA tp n i).2.2 ≤ n ∧ ((tkA tp n i).1 = 2 → (tkA tp n i).2.1 < 10000) ∧ ((tkA tp n i).1 = 3 → (tkA tp n i).2.1 < 29) ∧ ((tkA tp n i).1 = 4 → (tkA tp n i).2.1 < 256) ∧ ((tkA tp n i).1 = 0 → psN tp n i = n) := tok_rng (PZ_b h) (ps_le (PZ_b h) i)
/-- changes that leave the class's tokens and place as they are -/
theorem PZ_cg {M' N' : mM} (h : PZ tp n t i M N) (e1 : ∀ c', (c' = 101 ∨ c' = 105 ∨ c' = 106 ∨ c' = 107) → M' c' = M c') (e2 : ∀ j, (j = 2 ∨ j = 3 ∨ j = 10 ∨ j = 11) → M' 100 j = M 100 j) (e3 : ∀ c', (c' = 317 ∨ c' = 318) → N' c' = N c') (e4 : ∀ j, 8 ≤ j → j ≤ 12 → N' 312 j = N 312 j) : PZ tp n t i M' N' := by
  obtain ⟨⟨s1, s2, s3, s4, s5⟩, h2, h3, ⟨m1, m2, m3, m4⟩, h5, h6, h7⟩ := h
  refine ⟨⟨s1, s2, by rw [e2 10 (by omega)]; exact s3, s4, fun k hk => ?_⟩, h2, by rw [e2 11 (by omega)]; exact h3, ⟨by rw [e4 11 (by omega) (by omega)]; exact m1, by rw [e4 10 (by omega) (by omega)]; exact m2, by rw [e4 9 (by omega) (by omega)]; exact m3, fun h => by rw [e4 12 (by omega) (by omega)]; exact m4 h⟩, TB_M (TB_N h5 (e3 317 (by omega))) (e1 101 (by omega)), fun j hj => by rw [e3 318 (by omega)]; exact h6 j hj, by rw [e4 8 (by omega) (by omega)]; exact h7.1, by rw [e2 2 (by omega)]; exact h7.2.1, by rw [e2 3 (by omega)]; exact h7.2.2⟩
  unfold CE
  rw [e1 105 (by omega), e1 106 (by omega), e1 107 (by omega)]
  exact s5 k hk
/-- both go to the next token -/
theorem pz_step (hz : 1000 ≤ z) (h : PZ tp n t i M N) : ∃ M' N', F_Reader_step M = some (true, M') ∧ F_Mod_reads z N = some N' ∧ PZ tp n t (min (i + 1) t) M' N' ∧ (∀ c', c' ≠ 100 → M' c' = M c') ∧ (∀ j, j ≠ 11 → M' 100 j = M 100 j) ∧ FrR N N' := by
  have hr := PZ_r h
  obtain ⟨⟨s1, s2, s3, s4, s5⟩, h2, h3, ⟨m1, m2, m3, m4⟩, h5, h6, h7⟩ := id h
  obtain ⟨N', g1, g2, g3⟩ := mm_reads (z := z) hz h5 h6 h7.1 hr.2.1 m3
  have n1 : N' 317 = N 317 := g3.1 317 (by omega)
  have n2 : WT N' := fun j hj => by rw [g3.1 318 (by omega)]; exact h6 j hj
  have n3 : N' 312 8 = nI n := by rw [g3.2 8 (by omega) (by omega) (by omega) (by omega)]; exact h7.1
  by_cases hit : i < t
  · have e1 : min (i + 1) t = i + 1 := Nat.min_eq_left hit
    have c1 : ∀ c', c' ≠ 100 → up M 100 11 (nI (i + 1)) c' = M c' := fun c' hc => upC hc
    refine ⟨up M 100 11 (nI (i + 1)), N', ?_, g1, ?_, c1, fun j hj => up_neJ _ _ _ hj, g3⟩
    · unfold F_Reader_step
      rw [h3, s3, nsb (by omega), Nat.add_sub_cancel, if_pos (lT hit (by omega)), nadd, ob1_ok, ob1_ok]
    · rw [e1]
      refine ⟨⟨s1, s2, by rw [up_neJ _ _ _ (by omega)]; exact s3, s4, fun k hk => ?_⟩, hit, up_same _ _ _ _, g2, TB_M (TB_N h5 n1) (c1 101 (by omega)), n2, n3, by rw [up_neJ _ _ _ (by omega)]; exact h7.2.1, by rw [up_neJ _ _ _ (by omega)]; exact h7.2.2⟩
      unfold CE
      rw [c1 105 (by omega), c1 106 (by omega), c1 107 (by omega)]
      exact s5 k hk
  · have eit : i = t := by omega
    have e1 : min (i + 1) t = t := Nat.min_eq_right (by omega)
    refine ⟨M, N', ?_, g1, ?_, fun _ _ => rfl, fun _ _ => rfl, g3⟩
    · unfold F_Reader_step
      rw [h3, s3, nsb (by omega), Nat.add_sub_cancel, if_neg (lF (by omega) (by omega)), ob1_ok]
    · rw [e1]
      refine ⟨⟨s1, s2, s3, s4, s5⟩, Nat.le_refl _, by rw [h3, eit], ?_, TB_N h5 n1, n2, n3, h7.2⟩
      have he : skN tp n (tkA tp n i).2.2 = psN tp n t := by
        show skN tp n (tokN tp n (psN tp n i)).2.2 = _
        rw [eit, s1, tok_n, sk_n]
      have g2' : ME N' (tokN tp n (skN tp n (tkA tp n i).2.2)) (skN tp n (tkA tp n i).2.2) := g2
      rw [he] at g2'
      exact g2'
theorem pz_kind (h : PZ tp n t i M N) : ra M 105 401 (M 100 11) = some (nI (tkA tp n i).1) := by
  obtain ⟨⟨s1, s2, s3, s4, s5⟩, h2, h3, -⟩ := h
  rw [h3, ra_ok (by omega) (by omega), (s5 i h2).1]
theorem pz_val (h : PZ tp n t i M N) (hk : 2 ≤ (tkA tp n i).1) : ra M 106 401 (M 100 11) = some (nI (tkA tp n i).2.1) := by
  obtain ⟨⟨s1, s2, s3, s4, s5⟩, h2, h3, -⟩ := h
  rw [h3, ra_ok (by omega) (by omega), (s5 i h2).2.2 hk]
/-- is a keyword of these at hand -/
theorem pz_isWord (h : PZ tp n t i M N) {a b : Nat} (ha : a < 100) (hb : b < 100) : F_Reader_isWord (nI a) (nI b) M = some (decide ((tkA tp n i).1 = 3 ∧ a ≤ (tkA tp n i).2.1 ∧ (tkA tp n i).2.1 ≤ b)) := by
  have hr := PZ_r h
  unfold F_Reader_isWord
  rw [pz_kind h, ob1_ok]
  by_cases h3 : (tkA tp n i).1 = 3
  · have hv := hr.2.2.2.1 h3
    rw [pz_val h (by omega), h3, decide_eq_true rfl, ob1_ok, if_pos rfl, ob1_ok]
    by_cases h4 : a ≤ (tkA tp n i).2.1
    · rw [decide_eq_true (lF h4 (by omega)), ob1_ok, if_pos rfl, ob1_ok, ob1_ok]
      congr 1
      refine decide_eq_decide.mpr ⟨fun h' => ⟨rfl, h4, ?_⟩, fun h' => lF h'.2.2 (by omega)⟩
      by_cases h5 : (tkA tp n i).2.1 ≤ b
      · exact h5
      · exact absurd (lT (by omega) (by omega)) h'
    · rw [decide_eq_false (fun h' => h' (lT (by omega) (by omega))), ob1_ok, if_neg Bool.false_ne_true, ob1_ok]
      exact congrArg some (decide_eq_false (fun h' => h4 h'.2.1)).symm
  · rw [decide_eq_false (eF h3 (by omega) (by omega)), ob1_ok, if_neg Bool.false_ne_true, ob1_ok, if_neg Bool.false_ne_true, ob1_ok]
    exact congrArg some (decide_eq_false (fun h' => h3 h'.1)).symm
theorem pz_isSign (h : PZ tp n t i M N) {s : Nat} (hs : s < 256) : F_Reader_isSign (nI s) M = some (decide ((tkA tp n i).1 = 4 ∧ (tkA tp n i).2.1 = s)) ∧ F_Mod_isSign (nI s) N = decide ((tkA tp n i).1 = 4 ∧ (tkA tp n i).2.1 = s) := by
  have hr := PZ_r h
  obtain ⟨-, -, -, ⟨m1, m2, m3, m4⟩, -⟩ := id h
  constructor
  · unfold F_Reader_isSign
    rw [pz_kind h, ob1_ok]
    by_cases h4 : (tkA tp n i).1 = 4
    · have hv := hr.2.2.2.2.1 h4
      rw [pz_val h (by omega), h4, decide_eq_true rfl, ob1_ok, if_pos rfl, ob1_ok, ob1_ok]
      congr 1
      exact decide_eq_decide.mpr ⟨fun h' => ⟨rfl, (nI_inj (by omega) (by omega)).mp h'⟩, fun h' => by rw [h'.2]⟩
    · rw [decide_eq_false (eF h4 (by omega) (by omega)), ob1_ok, if_neg Bool.false_ne_true, ob1_ok]
      exact congrArg some (decide_eq_false (fun h' => h4 h'.1)).symm
  · unfold F_Mod_isSign
    apply decide_eq_decide.mpr
    rw [m1]
    constructor
    · rintro ⟨h1, h2⟩
      have h4 : (tkA tp n i).1 = 4 := by
        have := (nI_inj (by split <;> (try split) <;> omega) (by omega)).mp h1
        split at this
        · omega
        · split at this
          · omega
          · exact this
      have hv := hr.2.2.2.2.1 h4
      have h5 := m4 (by omega)
      rw [if_neg (by omega)] at h5
      rw [h5] at h2
      exact ⟨h4, (nI_inj (by omega) (by omega)).mp h2⟩
    · rintro ⟨h1, h2⟩
      have h5 := m4 (by omega)
      rw [if_neg (by omega)] at h5
      rw [h1, h5, h2]
      exact ⟨rfl, rfl⟩
end SA0
