/-! ===== what is told stays, when only drafts change ===== -/
section SD6
variable {z c : Nat} {M N M' N' : mM} {A : LA} {S F : Rw} {T : Tx} {W : Wd} {P : Ps}
theorem FrT_row (f : FrT N N') {c' : Nat} (h : c' ≠ 312 ∧ ¬ (320 ≤ c' ∧ c' ≤ 329)) : N' c' = N c' := funext fun j => f c' j (Or.inl h)
theorem FrT_312 (f : FrT N N') {j : Nat} (h : ¬ (9 ≤ j ∧ j ≤ 12) ∧ j ≠ 22 ∧ j ≠ 23 ∧ j ≠ 25 ∧ j ≠ 26 ∧ j ≠ 27) : N' 312 j = N 312 j := f 312 j (Or.inr (Or.inl ⟨rfl, h⟩))
theorem ML_low (h : ML N A) (e1 : N' 319 = N 319) (e2 : ∀ c' j, 320 ≤ c' → c' ≤ 323 → j < 32 → N' c' j = N c' j) (e3 : ∀ j, j < 400 → N' 324 j = N 324 j ∧ N' 325 j = N 325 j) : ML N' A := by
  obtain ⟨h1, h2, h3⟩ := h
  refine ⟨h1, by rw [e1]; exact h2, fun i hi => ?_⟩
  obtain ⟨b, e, e', x1, x2, x3, x4, x5, x6, x7, x8⟩ := h3 i hi
  refine ⟨b, e, e', by rw [e2 320 i (by omega) (by omega) (by omega)]; exact x1, by rw [e2 321 i (by omega) (by omega) (by omega)]; exact x2, by rw [e2 322 i (by omega) (by omega) (by omega)]; exact x3, by rw [e2 323 i (by omega) (by omega) (by omega)]; exact x4, x5, x6, DenM_cg x7 (fun j hj => e3 j (by omega)), ?_⟩
  cases hg : aG A i with
  | none => rw [hg] at x8; exact x8
  | some g =>
    rw [hg] at x8
    exact ⟨x8.1, DenM_cg x8.2 (fun j hj => e3 j (by omega))⟩
theorem RMs_low (h : RMs N S) (h16 : S.1 ≤ 16) (e1 : N' 312 32 = N 312 32) (e2 : ∀ j, j < 64 → N' 328 j = N 328 j) : RMs N' S :=
  ⟨by rw [e1]; exact h.1, fun j k hj hk h3 => by rw [e2 _ (by omega)]; exact h.2 j k hj hk h3⟩
theorem RMf_low (h : RMf N F) (h16 : F.1 ≤ 16) (e1 : N' 312 30 = N 312 30) (e2 : ∀ j, j < 80 → N' 327 j = N 327 j) : RMf N' F :=
  ⟨by rw [e1]; exact h.1, fun j k hj hk => by rw [e2 _ (by omega)]; exact h.2 j k hj hk⟩
theorem MT_low (h : MT N T) (e0 : ∀ j, j = 34 ∨ j = 39 ∨ j = 42 ∨ j = 45 → N' 312 j = N 312 j) (e1 : ∀ j, j < 12 → N' 329 j = N 329 j) (e : ∀ c', c' = 333 ∨ c' = 335 ∨ c' = 336 ∨ c' = 337 ∨ c' = 338 ∨ c' = 339 → N' c' = N c') : MT N' T := by
  unfold MT at h ⊢
  rw [e0 34 (by omega), e0 39 (by omega), e0 42 (by omega), e0 45 (by omega), e 333 (by omega), e 335 (by omega), e 336 (by omega), e 337 (by omega), e 338 (by omega), e 339 (by omega)]
  exact ⟨⟨h.1.1, fun s hs => by rw [e1 s hs]; exact h.1.2 s hs⟩, h.2⟩
theorem KM_low (h : KM N A S F T) (hok : okK S F T) (f : FrT N N') : KM N' A S F T := by
  obtain ⟨h1, h2, h3, h4⟩ := h
  refine ⟨ML_low h1 (FrT_row f (by omega)) (fun c' j a b d => f c' j (by unfold lowT; omega)) (fun j hj => ⟨f 324 j (by unfold lowT; omega), f 325 j (by unfold lowT; omega)⟩), RMs_low h2 hok.1.1 (FrT_312 f (by omega)) (fun j hj => f 328 j (by unfold lowT; omega)), RMf_low h3 hok.2.1.1 (FrT_312 f (by omega)) (fun j hj => f 327 j (by unfold lowT; omega)), MT_low h4 (fun j hj => FrT_312 f (by omega)) (fun j hj => f 329 j (by unfold lowT; omega)) (fun c' hc => FrT_row f (by omega))⟩
/-- what can't be undone any more -/
theorem Wo_nil (h : Wo c M N W P) (e1 : ∀ c', (c' = 99 ∨ inW 1 c' ∨ (150 ≤ c' ∧ c' < 312)) → M' c' = M c') (e2 : M' 0 6 = M 0 6) (e2' : M' 0 7 = nI 0) (e3 : ∀ c', (c' = 313 ∨ c' = 314 ∨ c' = 316) → N' c' = N c') (e4 : N' 312 3 = nI 0) (e5 : N' 312 5 = N 312 5) : Wo c M' N' W (0, P.2) := by
  obtain ⟨⟨a1, a2, a3, a4⟩, ⟨⟨p, h2⟩, r, h3⟩, ⟨h4, h5, h6, h7⟩, h8⟩ := h
  obtain ⟨p1, p2, p3, p4, p5, p6⟩ := h3
  refine ⟨⟨a1, fun k hk => absurd hk (Nat.not_lt_zero k), fun k hk => absurd hk (Nat.not_lt_zero k), fun j k _ hk => absurd hk (Nat.not_lt_zero k)⟩, ⟨⟨p, CW_congr h2 (fun c' hc => e1 c' (Or.inr (Or.inl hc)))⟩, r, Nat.zero_le _, p2, e2', by rw [e2]; exact p4, fun i hi => ?_, fun k hk => absurd hk (Nat.not_lt_zero k)⟩, ⟨RM_congr (e3 313 (by omega)) (e3 316 (by omega)) h4, Nat.zero_le _, e4, fun k hk => absurd hk (Nat.not_lt_zero k)⟩, by rw [e5]; exact h8⟩
  obtain ⟨q1, q, q2⟩ := p5 i hi
  exact ⟨by rw [e1 99 (by omega)]; exact q1, q, TP_cg q2 (e1 _ (by omega))⟩
end SD6
