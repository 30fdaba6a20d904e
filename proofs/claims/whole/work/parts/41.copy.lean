/-! ===== the class copies a world ===== -/
theorem isW_sep {w o : Nat} (hw : isW w) (ho : isW o) (h : w ≠ o) : w + 27 ≤ o ∨ o + 27 ≤ w := by
  unfold isW at hw ho
  simp only [List.mem_cons, List.not_mem_nil, or_false] at hw ho
  omega
theorem wc_ok {M : mM} {c0 n0 c1 n1 n : Nat} (h0 : n ≤ n0) (h1 : n ≤ n1) (hn : n < 2147483648) : wc M c0 n0 (nI 0) c1 n1 (nI 0) (nI n) = some (fil M c1 0 n (M c0)) := by
  unfold wc wcOk
  rw [nI_clamp hn, nI_clamp (show 0 < 2147483648 by omega), decide_eq_false (show ¬ nI 0 < (0 : Int32) from (show ¬ nI 0 < nI 0 from lF (by omega) (by omega))), decide_eq_false (show ¬ nI n < (0 : Int32) from (show ¬ nI n < nI 0 from lF (by omega) (by omega))), decide_eq_true (show 0 + n ≤ n0 by omega), decide_eq_true (show 0 + n ≤ n1 by omega), if_pos (show (!false && !false && !false && true && true) = true from rfl)]
  unfold fil
  refine congrArg (fun g => some (upR M c1 g)) ?_
  funext j
  show (if 0 ≤ j ∧ j < 0 + n then M c0 (0 + (j - 0)) else M c1 j) = _
  rw [Nat.zero_add, Nat.zero_add, Nat.sub_zero]
theorem min_nn {a b : Nat} (h : a ≤ b) (hb : b < 2147483648) : F_Math_min (nI a) (nI b) = nI a := by
  unfold F_Math_min
  by_cases e : b < a
  · omega
  · rw [if_neg (lF (by omega) (by omega))]
theorem cS_b (k : Nat) : 5 ≤ cS k ∧ cS k ≤ 12 := by
  unfold cS
  repeat' split
  all_goals omega
section S41
variable {th : Bool} {z w o : Nat} {M : mM} {p q : Nat → Nat} {W : Wd} {c : Nat}
theorem th_copy {a b : Nat} (h : b ≠ a) : ∃ M', F_Thing_copyFrom a b M = some M' ∧ (∀ k, k < 7 → M' a k = M b k) ∧ Fr [a] M M' := by
  refine ⟨up (up (up (up (up (up (up M a 0 (M b 0)) a 1 (M b 1)) a 2 (M b 2)) a 3 (M b 3)) a 4 (M b 4)) a 5 (M b 5)) a 6 (M b 6), ?_, fun k hk => ?_, Fr_up (Fr_up (Fr_up (Fr_up (Fr_up (Fr_up (Fr_up (Fr_rf _ _) (by simp)) (by simp)) (by simp)) (by simp)) (by simp)) (by simp)) (by simp)⟩
  · unfold F_Thing_copyFrom
    simp only [ob1_ok, up_neC _ _ _ _ h]
  · rcases (show k = 0 ∨ k = 1 ∨ k = 2 ∨ k = 3 ∨ k = 4 ∨ k = 5 ∨ k = 6 by omega) with rfl | rfl | rfl | rfl | rfl | rfl | rfl <;> simp (disch := omega) [up_same, up_neJ]
theorem l_copyT (hw : isW w) (ho : isW o) (hs : w + 27 ≤ o ∨ o + 27 ≤ w) {N : Nat} (hN : N ≤ 20) : ∀ (m k n : Nat) (M : mM), k + m = N → m < n → TP w M p → TP o M q → M o 5 = nI N →
    ∃ M', L_World_copyFrom_1 z w o n (nI k) M = some M' ∧ (∀ t j, k ≤ t → t < N → j < 7 → M' (p t) j = M (q t) j) ∧ (∀ c', (∀ t, k ≤ t → t < N → c' ≠ p t) → M' c' = M c') := by
  intro m
  induction m with
  | zero =>
    intro k n M hk hn hP hQ h5
    obtain ⟨n, rfl⟩ : ∃ k, n = k + 1 := ⟨n - 1, by omega⟩
    refine ⟨M, ?_, fun t j h1 h2 => by omega, fun _ _ => rfl⟩
    rw [L_World_copyFrom_1, h5, if_neg (lF (by omega) (by omega))]
  | succ m ih =>
    intro k n M hk hn hP hQ h5
    obtain ⟨n, rfl⟩ : ∃ k, n = k + 1 := ⟨n - 1, by omega⟩
    obtain ⟨⟨p1, p2⟩, p3, p4⟩ := hP k (by omega)
    obtain ⟨⟨q1, q2⟩, q3, q4⟩ := hQ k (by omega)
    obtain ⟨M1, a1, a2, a3⟩ := th_copy (M := M) (a := p k) (b := q k) (by omega)
    have e : ∀ c', c' ≠ p k → M1 c' = M c' := fun c' h => a3 c' (by simpa using h)
    have hP1 : TP w M1 p := fun t ht => ⟨(hP t ht).1, by rw [e _ (by omega)]; exact (hP t ht).2.1, (hP t ht).2.2⟩
    have hQ1 : TP o M1 q := fun t ht => ⟨(hQ t ht).1, by rw [e _ (by omega)]; exact (hQ t ht).2.1, (hQ t ht).2.2⟩
    obtain ⟨M', b1, b2, b3⟩ := ih (k + 1) n M1 (by omega) (by omega) hP1 hQ1 (by rw [e _ (by omega)]; exact h5)
    refine ⟨M', ?_, fun t j h1 h2 h3 => ?_, fun c' h => ?_⟩
    · rw [L_World_copyFrom_1, h5, if_pos (lT (by omega) (by omega)), rT_ok hw hP (by omega), ob1_ok, rT_ok ho hQ (by omega), ob1_ok, a1, ob1_ok, nadd]
      exact b1
    · by_cases h : t = k
      · subst h
        rw [b3 (p t) (fun s s1 s2 es => by have := (hP t (by omega)).2.2 s (by omega) es.symm; omega), a2 j h3]
      · rw [b2 t j (by omega) h2 h3, e (q t) (by have := (hQ t (by omega)).1; omega)]
    · rw [b3 c' (fun t t1 t2 => h t (by omega) t2), e c' (h k (by omega) (by omega))]
theorem cw_copy (hz : 1000 ≤ z) (hw : isW w) (ho : isW o) (hne : w ≠ o) (hP : TP w M p) (hC : CW th o M q W) (h150 : wb W ≤ 150) : ∃ M', F_World_copyFrom z w o M = some M' ∧ CW th w M' p W ∧ (∀ c', ¬ inW w c' → M' c' = M c') := by
  have hs := isW_sep hw ho hne
  have h20 := CW_20 hC
  have hQ := CW_P hC
  obtain ⟨b, hb, eb⟩ := CW_b hC
  obtain ⟨M2, d2⟩ : ∃ M2, M2 = fil M (w + 1) 0 60 (M (o + 1)) := ⟨_, rfl⟩
  obtain ⟨M4, d4⟩ : ∃ M4, M4 = fil M2 (w + 2) 0 60 (M2 (o + 2)) := ⟨_, rfl⟩
  obtain ⟨M6, d6⟩ : ∃ M6, M6 = fil M4 (w + 3) 0 60 (M4 (o + 3)) := ⟨_, rfl⟩
  have n2 : ∀ c', c' ≠ w + 1 → M2 c' = M c' := fun c' h => by rw [d2]; exact fil_ne h
  have n4 : ∀ c', c' ≠ w + 1 → c' ≠ w + 2 → M4 c' = M c' := fun c' h h2 => by rw [d4, fil_ne h2]; exact n2 c' h
  have n6 : ∀ c', c' ≠ w + 1 → c' ≠ w + 2 → c' ≠ w + 3 → M6 c' = M c' := fun c' h h2 h3 => by rw [d6, fil_ne h3]; exact n4 c' h h2
  have hP6 : TP w M6 p := fun t ht => ⟨(hP t ht).1, by rw [n6 _ (by omega) (by omega) (by omega)]; exact (hP t ht).2.1, (hP t ht).2.2⟩
  have hQ6 : TP o M6 q := fun t ht => ⟨(hQ t ht).1, by rw [n6 _ (by omega) (by omega) (by omega)]; exact (hQ t ht).2.1, (hQ t ht).2.2⟩
  obtain ⟨M13, a1, a2, a3⟩ := l_copyT (z := z) hw ho hs h20 (wN W) 0 z M6 (by omega) (by omega) hP6 hQ6 (by rw [n6 _ (by omega) (by omega) (by omega)]; exact CW_N hC)
  have n13 : ∀ c', c' ≠ w + 1 → c' ≠ w + 2 → c' ≠ w + 3 → (∀ t, t < wN W → c' ≠ p t) → M13 c' = M c' := fun c' h h2 h3 h4 => by rw [a3 c' (fun t _ t2 => h4 t t2)]; exact n6 c' h h2 h3
  have np : ∀ c', ¬ (w + 7 ≤ c' ∧ c' < w + 27) → ∀ t, t < wN W → c' ≠ p t := fun c' h t ht e => h (by rw [e]; exact (hP t (by omega)).1)
  obtain ⟨M14, d14⟩ : ∃ M14, M14 = fil (up M13 (w + 5) 3 (nI b)) (w + 6) 0 (b * 4) (M13 (o + 6)) := ⟨_, rfl⟩
  have r14 : F_Rows_copyFrom (w + 5) 4 150 (o + 5) 4 150 M13 = some M14 := by
    unfold F_Rows_copyFrom
    have e1 : M13 (o + 5) 3 = nI b := by rw [n13 (o + 5) (by omega) (by omega) (by omega) (np _ (by omega))]; exact eb
    have e2 : up M13 (w + 5) 3 (nI b) (o + 5 + 1) = M13 (o + 6) := by
      funext j
      exact up_neC _ _ _ _ (by omega)
    rw [e1, min_nn hb (by omega), ob1_ok, ob1_ok, up_same, nmul, min_nn (show b * 4 ≤ 4 * 150 by omega) (by omega), ob1_ok, wc_ok (by omega) (by omega) (by omega), ob1_ok, e2, d14]
  have n14 : ∀ c', c' ≠ w + 5 → c' ≠ w + 6 → M14 c' = M13 c' := fun c' h h2 => by
    rw [d14, fil_ne h2]
    funext j
    exact up_neC _ _ _ _ h
  have v14 : ∀ j, M14 o j = M o j := fun j => by rw [n14 o (by omega) (by omega), n13 o (by omega) (by omega) (by omega) (np _ (by omega))]
  obtain ⟨M', dM⟩ : ∃ M', M' = up (up (up (up (up (up (up (up M14 w 5 (M o 5)) w 6 (M o 6)) w 7 (M o 7)) w 8 (M o 8)) w 9 (M o 9)) w 10 (M o 10)) w 11 (M o 11)) w 12 (M o 12) := ⟨_, rfl⟩
  have hrun : F_World_copyFrom z w o M = some M' := by
    unfold F_World_copyFrom
    rw [show (nI 60 : Int32) = nI 60 from rfl, wc_ok (by omega) (by omega) (by omega), ob1_ok, ← d2, wc_ok (by omega) (by omega) (by omega), ob1_ok, ← d4, wc_ok (by omega) (by omega) (by omega), ob1_ok, ← d6, a1, ob1_ok, r14, ob1_ok, dM]
    simp (disch := omega) only [ob1_ok, up_neC, v14]
  have nM : ∀ c', c' ≠ w → M' c' = M14 c' := fun c' h => by
    rw [dM]
    funext j
    simp (disch := omega) only [up_neC]
  have hw' : ∀ j, 5 ≤ j → j ≤ 12 → M' w j = M o j := fun j h1 h2 => by
    rw [dM]
    rcases (show j = 5 ∨ j = 6 ∨ j = 7 ∨ j = 8 ∨ j = 9 ∨ j = 10 ∨ j = 11 ∨ j = 12 by omega) with rfl | rfl | rfl | rfl | rfl | rfl | rfl | rfl <;> simp (disch := omega) only [up_same, up_neJ]
  refine ⟨M', hrun, ⟨⟨fun t ht => ⟨(hP t ht).1, ?_, (hP t ht).2.2⟩, h20⟩, fun k h1 h2 => ?_, ?_, fun i hi => ?_, fun i hi => ?_, fun i hi => ?_, fun t k ht hk => ?_, ⟨b, hb, ?_⟩, fun hth => ?_⟩, fun c' h => ?_⟩
  · rw [nM _ (by omega), n14 _ (by omega) (by omega), n13 _ (by omega) (by omega) (by omega) (np _ (by omega))]
    exact (hP t ht).2.1
  · rw [hw' (cS k) (cS_b k).1 (cS_b k).2]
    exact CW_S hC h1 h2
  · rw [hw' 5 (by omega) (by omega)]
    exact CW_N hC
  · rw [nM _ (by omega), n14 _ (by omega) (by omega), a3 _ (fun t _ t2 => np _ (by omega) t t2), d6, fil_ne (by omega), d4, fil_ne (by omega), d2, fil_at, if_pos ⟨Nat.zero_le _, hi⟩]
    exact CW_G hC hi
  · rw [nM _ (by omega), n14 _ (by omega) (by omega), a3 _ (fun t _ t2 => np _ (by omega) t t2), d6, fil_ne (by omega), d4, fil_at, if_pos ⟨Nat.zero_le _, hi⟩, n2 _ (by omega)]
    exact CW_L hC hi
  · rw [nM _ (by omega), n14 _ (by omega) (by omega), a3 _ (fun t _ t2 => np _ (by omega) t t2), d6, fil_at, if_pos ⟨Nat.zero_le _, hi⟩, n4 _ (by omega) (by omega)]
    exact CW_A hC hi
  · have h7 := (hP t (by omega)).1
    have h8 := (hQ t (by omega)).1
    rw [nM _ (by omega), n14 _ (by omega) (by omega), a2 t k (by omega) ht hk, n6 _ (by omega) (by omega) (by omega)]
    exact CW_T hC ht hk
  · rw [nM _ (by omega), d14, fil_ne (by omega), up_same]
  · subst hth
    have hB := CW_B hC
    have ebb : nI b = nI (wb W) := by rw [← eb, hB.1]
    refine ⟨by rw [nM _ (by omega), d14, fil_ne (by omega), up_same, ebb], fun j k hj hk => ?_⟩
    have hbb : b = wb W := (nI_inj (by omega) (by omega)).mp ebb
    subst hbb
    rw [nM _ (by omega), d14, fil_at, if_pos ⟨Nat.zero_le _, by omega⟩, n13 (o + 6) (by omega) (by omega) (by omega) (np _ (by omega))]
    exact hB.2 j k hj hk
  · unfold inW at h
    rw [nM _ (by omega), n14 _ (by omega) (by omega), n13 _ (by omega) (by omega) (by omega) (np _ (by omega))]
end S41
