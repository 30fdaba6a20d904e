/-! ===== all tokens: the class's first pass; the model's token at hand ===== -/
/-- behind blanks -/
def skN (tp : Nat → Nat) (n q : Nat) : Nat := rE isBl tp n (n - q) q
/-- where token i begins (n: the end) -/
def psN (tp : Nat → Nat) (n : Nat) : Nat → Nat
  | 0 => skN tp n 0
  | i + 1 => skN tp n (tokN tp n (psN tp n i)).2.2
theorem sk_n (tp : Nat → Nat) (n : Nat) : skN tp n n = n := by
  unfold skN
  rw [Nat.sub_self]
  rfl
theorem sk_bl {tp : Nat → Nat} {n q : Nat} (hq : q < n) (h : isBl (tp q) = true) : skN tp n q = skN tp n (q + 1) := by
  unfold skN
  obtain ⟨m, hm⟩ : ∃ m, n - q = m + 1 := ⟨n - q - 1, by omega⟩
  rw [hm, rE, if_pos ⟨hq, h⟩, show n - (q + 1) = m by omega]
theorem sk_no {tp : Nat → Nat} {n q : Nat} (hq : q < n) (h : ¬ isBl (tp q) = true) : skN tp n q = q := by
  unfold skN
  obtain ⟨m, hm⟩ : ∃ m, n - q = m + 1 := ⟨n - q - 1, by omega⟩
  rw [hm, rE, if_neg (fun h' => h h'.2)]
theorem tok_n (tp : Nat → Nat) (n : Nat) : tokN tp n n = (0, 0, n) := if_pos (Nat.le_refl _)
section S99
variable {z n : Nat} {M N : mM} {tp : Nat → Nat}
/-- the class's first pass is done: t tokens and the end -/
def SP (M : mM) (tp : Nat → Nat) (n t : Nat) : Prop := psN tp n t = n ∧ t ≤ 400 ∧ M 100 10 = nI (t + 1) ∧ (∀ i, i < t → psN tp n i < n) ∧ ∀ i, i ≤ t → CE M i (tokN tp n (psN tp n i)) (psN tp n i)
def FrS (M M' : mM) : Prop := (∀ c', c' ≠ 100 → c' ≠ 105 → c' ≠ 106 → c' ≠ 107 → M' c' = M c') ∧ ∀ j, j ≠ 10 → M' 100 j = M 100 j
theorem FrS_tr {M1 M' : mM} (h : FrS M M1) (h' : FrS M1 M') : FrS M M' := ⟨fun c' a b d e => (h'.1 c' a b d e).trans (h.1 c' a b d e), fun j a => (h'.2 j a).trans (h.2 j a)⟩
theorem l_split (hz : 1000 ≤ z) (hW : WT N) : ∀ (m q k cn y : Nat) (M : mM), q + m = n → m < y → k ≤ q → cn ≤ q → TB M N n tp → M 100 1 = nI n → skN tp n q = psN tp n k → M 100 10 = nI k → (∀ i, i < k → psN tp n i < n) → (∀ i, i < k → CE M i (tokN tp n (psN tp n i)) (psN tp n i)) →
    ∃ M' x t, L_Reader_split_1 z y (nI q) (nI cn) M = some (x, M') ∧ psN tp n t = n ∧ t ≤ n ∧ M' 100 10 = nI t ∧ (∀ i, i < t → psN tp n i < n) ∧ (∀ i, i < t → CE M' i (tokN tp n (psN tp n i)) (psN tp n i)) ∧ FrS M M' := by
  intro m
  induction m using Nat.strongRecOn with
  | ind m ih =>
    intro q k cn y M hq hy hk hcn hT h1 hs h10 hp hE
    have h4 := hT.1
    obtain ⟨y, rfl⟩ : ∃ k, y = k + 1 := ⟨y - 1, by omega⟩
    by_cases hqn : q < n
    · obtain ⟨b1, b2, b3⟩ := hT.2 q hqn
      have hra : ra M 101 400 (nI q) = some (nI (tp q)) := by rw [ra_ok (by omega) (by omega), b2]
      have hcond : (if decide (nI (tp q) = nI 32) = true then some true else some (decide (nI (tp q) = nI 10))) = some (isBl (tp q)) := by
        unfold isBl
        by_cases e : tp q = 32
        · rw [e]; rfl
        · rw [decide_eq_false (eF e (by omega) (by omega)), if_neg Bool.false_ne_true]
          by_cases e2 : tp q = 10
          · rw [e2]; rfl
          · rw [decide_eq_false (eF e2 (by omega) (by omega))]
            cases x1 : Nat.beq (tp q) 32 with
            | true => exact absurd (beq_iff.mp x1) e
            | false =>
              cases x2 : Nat.beq (tp q) 10 with
              | true => exact absurd (beq_iff.mp x2) e2
              | false => rfl
      have e1 : L_Reader_split_1 z (y + 1) (nI q) (nI cn) M = ob2 (if isBl (tp q) = true then some (nI (q + 1), M) else ob2 (F_Reader_token z (nI q) M) fun v62 M63 => some (v62, M63)) fun v41 M43 => L_Reader_split_1 z y v41 (nI (cn + 1)) M43 := by
        rw [L_Reader_split_1, h1, if_pos ⟨lT (by omega) (by omega), lT hqn (by omega)⟩, hra, ob1_ok, ob1_ok, ob1_ok, hcond, ob1_ok, nadd, nadd]
      rw [e1]
      by_cases hb : isBl (tp q) = true
      · rw [if_pos hb, ob2_ok]
        exact ih (m - 1) (by omega) (q + 1) k (cn + 1) y M (by omega) (by omega) (by omega) (by omega) hT h1 (by rw [← sk_bl hqn hb]; exact hs) h10 hp hE
      · have hsq := sk_no hqn hb
        rw [hs] at hsq
        obtain ⟨M1, a1, a2, a3, a4, a5, a6, a7, a8, a9⟩ := cw_token (z := z) (i := k) hz hT hW h1 hqn (by omega) h10
        rw [if_neg hb, a1, ob2_ok, ob2_ok]
        obtain ⟨e, he⟩ : ∃ e, e = (tokN tp n q).2.2 := ⟨_, rfl⟩
        rw [← he] at a2 a3 ⊢
        have hk1 : psN tp n (k + 1) = skN tp n e := by
          show skN tp n (tokN tp n (psN tp n k)).2.2 = _
          rw [hsq, he]
        obtain ⟨M', x, t, g1, g2, g3, g4, g5, g6, g7⟩ := ih (n - e) (by omega) e (k + 1) (cn + 1) y M1 (by omega) (by omega) (by omega) (by omega) (TB_M hT (a8 101 (by omega) (by omega) (by omega) (by omega))) (by rw [a9 1 (by omega)]; exact h1) hk1.symm a6 (fun i hi => by
          by_cases ei : i = k
          · rw [ei, hsq]; exact hqn
          · exact hp i (by omega)) (fun i hi => by
          by_cases ei : i = k
          · rw [ei, hsq]; exact a5
          · obtain ⟨u1, u2, u3⟩ := hE i (by omega)
            exact ⟨by rw [a7 105 i (by omega) ei]; exact u1, by rw [a7 107 i (by omega) ei]; exact u2, fun h => by rw [a7 106 i (by omega) ei]; exact u3 h⟩)
        exact ⟨M', x, t, g1, g2, g3, g4, g5, g6, FrS_tr ⟨a8, a9⟩ g7⟩
    · have eq : q = n := by omega
      rw [L_Reader_split_1, h1, if_neg (fun h => lF (by omega) (by omega) h.2)]
      rw [eq, sk_n] at hs
      exact ⟨M, _, k, rfl, hs.symm, by omega, h10, hp, hE, fun _ _ _ _ _ => rfl, fun _ _ => rfl⟩
theorem cw_split (hz : 1000 ≤ z) (hW : WT N) (hT : TB M N n tp) (h1 : M 100 1 = nI n) : ∃ M' t, F_Reader_split z M = some M' ∧ SP M' tp n t ∧ M' 100 11 = nI 0 ∧ (∀ c', c' ≠ 100 → c' ≠ 105 → c' ≠ 106 → c' ≠ 107 → M' c' = M c') ∧ ∀ j, j ≠ 10 → j ≠ 11 → M' 100 j = M 100 j := by
  have h4 := hT.1
  obtain ⟨M1, d1⟩ : ∃ M1, M1 = up (up M 100 10 (nI 0)) 100 11 (nI 0) := ⟨_, rfl⟩
  have c1 : ∀ c', c' ≠ 100 → M1 c' = M c' := fun c' h => by rw [d1, upC h, upC h]
  have j1 : ∀ j, j ≠ 10 → j ≠ 11 → M1 100 j = M 100 j := fun j a b => by rw [d1, up_neJ _ _ _ b, up_neJ _ _ _ a]
  obtain ⟨M2, x, t, g1, g2, g3, g4, g5, g6, g7, g8⟩ := l_split (z := z) (N := N) (n := n) (tp := tp) hz hW n 0 0 0 z M1 (by omega) (by omega) (Nat.le_refl _) (Nat.le_refl _) (TB_M hT (c1 101 (by omega))) (by rw [j1 1 (by omega) (by omega)]; exact h1) rfl (by rw [d1, up_neJ _ _ _ (by omega), up_same]) (fun i hi => absurd hi (Nat.not_lt_zero i)) (fun i hi => absurd hi (Nat.not_lt_zero i))
  have e1 : M2 100 1 = nI n := by rw [g8 1 (by omega), j1 1 (by omega) (by omega)]; exact h1
  obtain ⟨M', a1, a2, a3, a4, a5, a6, a7, a8⟩ := ce_add (M := M2) (i := t) (by omega) g4 (nI 0) (nI 0) (nI n)
  refine ⟨M', t, ?_, ⟨g2, by omega, a5, g5, fun i hi => ?_⟩, ?_, fun c' h1 h2 h3 h4 => by rw [a7 c' h1 h2 h3 h4, g7 c' h1 h2 h3 h4, c1 c' h1], fun j a b => by rw [a8 j a, g8 j a, j1 j a b]⟩
  · unfold F_Reader_split
    rw [ob1_ok, ob1_ok, ← d1, g1, ob2_ok, e1, a1, ob1_ok]
  · by_cases ei : i = t
    · rw [ei, g2, tok_n]
      exact ⟨a2, a4, fun h => by have h' : 2 ≤ 0 := h; omega⟩
    · obtain ⟨u1, u2, u3⟩ := g6 i (by omega)
      exact ⟨by rw [a6 105 i (by omega) ei]; exact u1, by rw [a6 107 i (by omega) ei]; exact u2, fun h => by rw [a6 106 i (by omega) ei]; exact u3 h⟩
  · rw [a8 11 (by omega), g8 11 (by omega), d1, up_same]
end S99
