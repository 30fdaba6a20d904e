/-! ===== what was read is taken over: class, model ===== -/
section SD5
variable {z c : Nat} {M N M' N' : mM} {A : LA}
theorem law_take {cs : Nat} (h16 : aN A ≤ 16) (hN : M 102 3 = nI (aN A)) (hcs : cs ≤ 400) (h6 : M 100 6 = nI cs) (hL : ∀ i, i < aN A → ∃ b e e2, M 103 (i * 5 + 0) = aW A i ∧ M 103 (i * 5 + 1) = nI b ∧ M 103 (i * 5 + 2) = nI e ∧ M 103 (i * 5 + 3) = nI e2 ∧ e2 ≤ cs ∧ LnC (M 104) b e e2 (aF A i) (aG A i)) :
    ∃ M', F_Law_take 29 102 5 16 104 400 (M 100 6) M = some M' ∧ CL 29 M' A ∧ Fr [29, 30, 31, 32] M M' := by
  obtain ⟨M1, a1, a2, a3, a4⟩ := rows_copy (M := M) (r0 := 30) (ro := 102) (wd := 5) (mo := 16) hN h16 (by omega) (by omega) (by omega)
  have f1 : ∀ c', c' ≠ 30 → c' ≠ 31 → M1 c' = M c' := fun c' x y => a4 c' (by simp only [List.mem_cons, List.not_mem_nil, or_false]; omega)
  obtain ⟨M2, d2⟩ : ∃ M2, M2 = up M1 29 2 (nI cs) := ⟨_, rfl⟩
  have e2 : M2 29 2 = nI cs := by rw [d2, up_same]
  have e3 : M2 104 = M 104 := by rw [d2, upC (by omega), f1 _ (by omega) (by omega)]
  obtain ⟨M', d3⟩ : ∃ M', M' = fil M2 32 0 cs (M2 104) := ⟨_, rfl⟩
  have hcode : ∀ j, j < cs → M' 32 j = M 104 j := fun j hj => by rw [d3, fil_at, if_pos ⟨Nat.zero_le _, hj⟩, e3]
  have hl2 : ∀ c', c' ≠ 32 → c' ≠ 29 → M' c' = M1 c' := fun c' x y => by rw [d3, fil_ne x, d2, upC y]
  refine ⟨M', ?_, ⟨h16, ?_, cs, hcs, ?_, fun i hi => ?_⟩, fun c' h => ?_⟩
  · unfold F_Law_take
    rw [a1, ob1_ok, h6, min_n (by omega) (by omega), Nat.min_eq_left hcs, min_n (by omega) (by omega), Nat.min_eq_left hcs, ob1_ok, ob1_ok, ← d2, e2, wc_ok (by omega) (by omega) (by omega), ob1_ok, d3]
  · rw [hl2 30 (by omega) (by omega)]
    exact a2
  · rw [d3, fil_ne (by omega)]
    exact e2
  · obtain ⟨b, e, e', x1, x2, x3, x4, x5, x6, x7, x8⟩ := hL i hi
    have hr : ∀ k, k < 5 → M' 31 (i * 5 + k) = M 103 (i * 5 + k) := fun k hk => by
      rw [hl2 31 (by omega) (by omega)]
      exact a3 _ (by omega)
    refine ⟨b, e, e', by rw [hr 0 (by omega)]; exact x1, by rw [hr 1 (by omega)]; exact x2, by rw [hr 2 (by omega)]; exact x3, by rw [hr 3 (by omega)]; exact x4, x6, x5, Den_cg x7 (fun j hj => hcode j (by omega)), ?_⟩
    cases hg : aG A i with
    | none => rw [hg] at x8; exact x8
    | some g =>
      rw [hg] at x8
      exact ⟨x8.1, Den_cg x8.2 (fun j hj => hcode j (by omega))⟩
  · simp only [List.mem_cons, List.not_mem_nil, or_false] at h
    rw [hl2 c' (by omega) (by omega), f1 c' (by omega) (by omega)]
/-- the model's lines of a law -/
theorem tl_1 {n : Nat} (hn : n ≤ 16) : ∀ (m j y : Nat) (N : mM), j + m = n → m < y → ∃ N', L_Mod_takesLaw_1 z (nI n) y (nI j) N = some N' ∧ (∀ c', ¬ (320 ≤ c' ∧ c' ≤ 323) → N' c' = N c') ∧ ∀ c' q, 320 ≤ c' → c' ≤ 323 → N' c' q = if j ≤ q ∧ q < n then N c' (32 + q) else N c' q := by
  intro m
  induction m with
  | zero =>
    intro j y N hj hy
    obtain ⟨y, rfl⟩ : ∃ k, y = k + 1 := ⟨y - 1, by omega⟩
    refine ⟨N, ?_, fun _ _ => rfl, fun c' q _ _ => by rw [if_neg (by omega)]⟩
    rw [L_Mod_takesLaw_1, if_neg (lF (by omega) (by omega))]
  | succ m ih =>
    intro j y N hj hy
    obtain ⟨y, rfl⟩ : ∃ k, y = k + 1 := ⟨y - 1, by omega⟩
    obtain ⟨N1, d1⟩ : ∃ N1, N1 = up (up (up (up N 320 j (N 320 (32 + j))) 321 j (N 321 (32 + j))) 322 j (N 322 (32 + j))) 323 j (N 323 (32 + j)) := ⟨_, rfl⟩
    have h1 : ∀ c' q, 320 ≤ c' → c' ≤ 323 → N1 c' q = if q = j then N c' (32 + j) else N c' q := by
      intro c' q p r
      have : c' = 320 ∨ c' = 321 ∨ c' = 322 ∨ c' = 323 := by omega
      rw [d1]
      rcases this with rfl | rfl | rfl | rfl
      · rw [up_neC _ _ _ _ (by omega), up_neC _ _ _ _ (by omega), up_neC _ _ _ _ (by omega)]
        by_cases e : q = j
        · subst e; rw [up_same, if_pos rfl]
        · rw [up_neJ _ _ _ e, if_neg e]
      · rw [up_neC _ _ _ _ (by omega), up_neC _ _ _ _ (by omega)]
        by_cases e : q = j
        · subst e; rw [up_same, if_pos rfl]
        · rw [up_neJ _ _ _ e, if_neg e, up_neC _ _ _ _ (by omega)]
      · rw [up_neC _ _ _ _ (by omega)]
        by_cases e : q = j
        · subst e; rw [up_same, if_pos rfl]
        · rw [up_neJ _ _ _ e, if_neg e, up_neC _ _ _ _ (by omega), up_neC _ _ _ _ (by omega)]
      · by_cases e : q = j
        · subst e; rw [up_same, if_pos rfl]
        · rw [up_neJ _ _ _ e, if_neg e, up_neC _ _ _ _ (by omega), up_neC _ _ _ _ (by omega), up_neC _ _ _ _ (by omega)]
    obtain ⟨N', g1, g2, g3⟩ := ih (j + 1) y N1 (by omega) (by omega)
    refine ⟨N', ?_, fun c' h => by rw [g2 c' h, d1, upC (by omega), upC (by omega), upC (by omega), upC (by omega)], fun c' q p r => ?_⟩
    · have e0 : nI 16 * nI 0 + nI j = nI j := by
        rw [nmul, nadd]
        congr 1
        omega
      rw [L_Mod_takesLaw_1, if_pos (lT (by omega) (by omega)), e0, nadd 32 j, ra_ok (show 32 + j < 48 by omega) (by omega), ob1_ok, wa_ok (show j < 48 by omega) (by omega), ob1_ok, ra_ok (show 32 + j < 48 by omega) (by omega), ob1_ok, wa_ok (show j < 48 by omega) (by omega), ob1_ok, ra_ok (show 32 + j < 48 by omega) (by omega), ob1_ok, wa_ok (show j < 48 by omega) (by omega), ob1_ok, ra_ok (show 32 + j < 48 by omega) (by omega), ob1_ok, wa_ok (show j < 48 by omega) (by omega), ob1_ok, nadd j 1,
        up_neC _ _ _ _ (show 321 ≠ 320 by omega), up_neC _ _ _ _ (show 322 ≠ 321 by omega), up_neC _ _ _ _ (show 322 ≠ 320 by omega), up_neC _ _ _ _ (show 323 ≠ 322 by omega), up_neC _ _ _ _ (show 323 ≠ 321 by omega), up_neC _ _ _ _ (show 323 ≠ 320 by omega), ← d1]
      exact g1
    · rw [g3 c' q p r, h1 c' (32 + q) p r, h1 c' q p r, if_neg (show ¬ 32 + q = j by omega)]
      by_cases e : q = j
      · subst e
        rw [if_neg (by omega), if_pos rfl, if_pos (by omega)]
      · rw [if_neg e]
        by_cases e2 : j + 1 ≤ q ∧ q < n
        · rw [if_pos e2, if_pos (by omega)]
        · rw [if_neg e2, if_neg (by omega)]
/-- the model's codes of a law -/
theorem tl_2 {n : Nat} (hn : n ≤ 400) : ∀ (m j y : Nat) (N : mM), j + m = n → m < y → N 312 22 = nI n → ∃ N', L_Mod_takesLaw_2 z y (nI j) N = some N' ∧ (∀ c', c' ≠ 324 → c' ≠ 325 → N' c' = N c') ∧ ∀ c' q, (c' = 324 ∨ c' = 325) → N' c' q = if j ≤ q ∧ q < n then N c' (800 + q) else N c' q := by
  intro m
  induction m with
  | zero =>
    intro j y N hj hy h22
    obtain ⟨y, rfl⟩ : ∃ k, y = k + 1 := ⟨y - 1, by omega⟩
    refine ⟨N, ?_, fun _ _ _ => rfl, fun c' q _ => by rw [if_neg (by omega)]⟩
    rw [L_Mod_takesLaw_2, h22, if_neg (lF (by omega) (by omega))]
  | succ m ih =>
    intro j y N hj hy h22
    obtain ⟨y, rfl⟩ : ∃ k, y = k + 1 := ⟨y - 1, by omega⟩
    obtain ⟨N1, d1⟩ : ∃ N1, N1 = up (up N 324 j (N 324 (800 + j))) 325 j (N 325 (800 + j)) := ⟨_, rfl⟩
    have h1 : ∀ c' q, (c' = 324 ∨ c' = 325) → N1 c' q = if q = j then N c' (800 + j) else N c' q := by
      intro c' q p
      rw [d1]
      rcases p with rfl | rfl
      · rw [up_neC _ _ _ _ (by omega)]
        by_cases e : q = j
        · subst e; rw [up_same, if_pos rfl]
        · rw [up_neJ _ _ _ e, if_neg e]
      · by_cases e : q = j
        · subst e; rw [up_same, if_pos rfl]
        · rw [up_neJ _ _ _ e, if_neg e, up_neC _ _ _ _ (by omega)]
    obtain ⟨N', g1, g2, g3⟩ := ih (j + 1) y N1 (by omega) (by omega) (by rw [d1, up_neC _ _ _ _ (by omega), up_neC _ _ _ _ (by omega)]; exact h22)
    refine ⟨N', ?_, fun c' h h' => by rw [g2 c' h h', d1, upC h', upC h], fun c' q p => ?_⟩
    · have e0 : nI 400 * nI 0 + nI j = nI j := by
        rw [nmul, nadd]
        congr 1
        omega
      rw [L_Mod_takesLaw_2, h22, if_pos (lT (by omega) (by omega)), e0, nadd 800 j, ra_ok (show 800 + j < 1200 by omega) (by omega), ob1_ok, wa_ok (show j < 1200 by omega) (by omega), ob1_ok, ra_ok (show 800 + j < 1200 by omega) (by omega), ob1_ok, wa_ok (show j < 1200 by omega) (by omega), ob1_ok, nadd j 1, up_neC _ _ _ _ (show 325 ≠ 324 by omega), ← d1]
      exact g1
    · rw [g3 c' q p, h1 c' (800 + q) p, h1 c' q p, if_neg (show ¬ 800 + q = j by omega)]
      by_cases e : q = j
      · subst e
        rw [if_neg (by omega), if_pos rfl, if_pos (by omega)]
      · rw [if_neg e]
        by_cases e2 : j + 1 ≤ q ∧ q < n
        · rw [if_pos e2, if_pos (by omega)]
        · rw [if_neg e2, if_neg (by omega)]
theorem to_1 {n : Nat} (hn : n ≤ 16) : ∀ (m j y : Nat) (N : mM), j + m = 4 * n → m < y → ∃ N', L_Mod_takesOther_1 z (nI n) y (nI j) N = some N' ∧ (∀ c', c' ≠ 328 → N' c' = N c') ∧ ∀ q, N' 328 q = if j ≤ q ∧ q < 4 * n then N 328 (64 + q) else N 328 q := by
  intro m
  induction m with
  | zero =>
    intro j y N hj hy
    obtain ⟨y, rfl⟩ : ∃ k, y = k + 1 := ⟨y - 1, by omega⟩
    refine ⟨N, ?_, fun _ _ => rfl, fun q => by rw [if_neg (by omega)]⟩
    rw [L_Mod_takesOther_1, nmul, if_neg (lF (by omega) (by omega))]
  | succ m ih =>
    intro j y N hj hy
    obtain ⟨y, rfl⟩ : ∃ k, y = k + 1 := ⟨y - 1, by omega⟩
    obtain ⟨N', g1, g2, g3⟩ := ih (j + 1) y (up N 328 j (N 328 (64 + j))) (by omega) (by omega)
    refine ⟨N', ?_, fun c' h => by rw [g2 c' h, upC h], fun q => ?_⟩
    · rw [L_Mod_takesOther_1, nmul, if_pos (lT (by omega) (by omega)), nadd 64 j, ra_ok (show 64 + j < 128 by omega) (by omega), ob1_ok, wa_ok (show j < 128 by omega) (by omega), ob1_ok, nadd j 1]
      exact g1
    · rw [g3 q]
      by_cases e : q = j
      · subst e
        rw [if_neg (by omega), up_same, if_pos (by omega)]
      · by_cases e2 : j + 1 ≤ q ∧ q < 4 * n
        · rw [if_pos e2, if_pos (by omega), up_neJ _ _ _ (by omega)]
        · rw [if_neg e2, if_neg (by omega), up_neJ _ _ _ e]
theorem to_2 {n : Nat} (hn : n ≤ 16) : ∀ (m j y : Nat) (N : mM), j + m = 5 * n → m < y → ∃ N', L_Mod_takesOther_2 z (nI n) y (nI j) N = some N' ∧ (∀ c', c' ≠ 327 → N' c' = N c') ∧ ∀ q, N' 327 q = if j ≤ q ∧ q < 5 * n then N 327 (80 + q) else N 327 q := by
  intro m
  induction m with
  | zero =>
    intro j y N hj hy
    obtain ⟨y, rfl⟩ : ∃ k, y = k + 1 := ⟨y - 1, by omega⟩
    refine ⟨N, ?_, fun _ _ => rfl, fun q => by rw [if_neg (by omega)]⟩
    rw [L_Mod_takesOther_2, nmul, if_neg (lF (by omega) (by omega))]
  | succ m ih =>
    intro j y N hj hy
    obtain ⟨y, rfl⟩ : ∃ k, y = k + 1 := ⟨y - 1, by omega⟩
    obtain ⟨N', g1, g2, g3⟩ := ih (j + 1) y (up N 327 j (N 327 (80 + j))) (by omega) (by omega)
    refine ⟨N', ?_, fun c' h => by rw [g2 c' h, upC h], fun q => ?_⟩
    · rw [L_Mod_takesOther_2, nmul, if_pos (lT (by omega) (by omega)), nadd 80 j, ra_ok (show 80 + j < 160 by omega) (by omega), ob1_ok, wa_ok (show j < 160 by omega) (by omega), ob1_ok, nadd j 1]
      exact g1
    · rw [g3 q]
      by_cases e : q = j
      · subst e
        rw [if_neg (by omega), up_same, if_pos (by omega)]
      · by_cases e2 : j + 1 ≤ q ∧ q < 5 * n
        · rw [if_pos e2, if_pos (by omega), up_neJ _ _ _ (by omega)]
        · rw [if_neg e2, if_neg (by omega), up_neJ _ _ _ e]
theorem to_3 : ∀ (m j y : Nat) (N : mM), j + m = 12 → m < y → ∃ N', L_Mod_takesOther_3 z y (nI j) N = some N' ∧ (∀ c', c' ≠ 329 → N' c' = N c') ∧ ∀ q, N' 329 q = if j ≤ q ∧ q < 12 then N 329 (12 + q) else N 329 q := by
  intro m
  induction m with
  | zero =>
    intro j y N hj hy
    obtain ⟨y, rfl⟩ : ∃ k, y = k + 1 := ⟨y - 1, by omega⟩
    refine ⟨N, ?_, fun _ _ => rfl, fun q => by rw [if_neg (by omega)]⟩
    rw [L_Mod_takesOther_3, if_neg (lF (by omega) (by omega))]
  | succ m ih =>
    intro j y N hj hy
    obtain ⟨y, rfl⟩ : ∃ k, y = k + 1 := ⟨y - 1, by omega⟩
    obtain ⟨N', g1, g2, g3⟩ := ih (j + 1) y (up N 329 j (N 329 (12 + j))) (by omega) (by omega)
    refine ⟨N', ?_, fun c' h => by rw [g2 c' h, upC h], fun q => ?_⟩
    · rw [L_Mod_takesOther_3, if_pos (lT (by omega) (by omega)), nadd 12 j, ra_ok (show 12 + j < 24 by omega) (by omega), ob1_ok, wa_ok (show j < 24 by omega) (by omega), ob1_ok, nadd j 1]
      exact g1
    · rw [g3 q]
      by_cases e : q = j
      · subst e
        rw [if_neg (by omega), up_same, if_pos (by omega)]
      · by_cases e2 : j + 1 ≤ q ∧ q < 12
        · rw [if_pos e2, if_pos (by omega), up_neJ _ _ _ (by omega)]
        · rw [if_neg e2, if_neg (by omega), up_neJ _ _ _ e]
end SD5
