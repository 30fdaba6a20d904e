/-! ===== the class keeps worlds ===== -/
theorem jrem6 : ∀ a, a < 12 → jrem (nI a) (nI 6) = nI (a % 6) := by
  intro a h
  rcases (show a = 0 ∨ a = 1 ∨ a = 2 ∨ a = 3 ∨ a = 4 ∨ a = 5 ∨ a = 6 ∨ a = 7 ∨ a = 8 ∨ a = 9 ∨ a = 10 ∨ a = 11 by omega) with rfl | rfl | rfl | rfl | rfl | rfl | rfl | rfl | rfl | rfl | rfl | rfl <;> decide
theorem isW_ring {i : Nat} (h : i < 6) : isW (150 + 27 * i) := by
  unfold isW
  simp only [List.mem_cons, List.not_mem_nil, or_false]
  omega
theorem isWb_ring {i : Nat} (h : i < 6) : isWb (150 + 27 * i) = true := by
  rcases (show i = 0 ∨ i = 1 ∨ i = 2 ∨ i = 3 ∨ i = 4 ∨ i = 5 by omega) with rfl | rfl | rfl | rfl | rfl | rfl <;> rfl
def rgx (r n k : Nat) : Nat := (r + 6 - n + k) % 6
def PC (M : mM) (r : Nat) (P : Ps) : Prop := P.1 ≤ 6 ∧ r < 6 ∧ M 0 7 = nI P.1 ∧ M 0 6 = nI r ∧ (∀ i, i < 6 → M 99 i = nI (150 + 27 * i) ∧ ∃ p, TP (150 + 27 * i) M p) ∧ ∀ k, k < P.1 → wb (P.2 k) ≤ 150 ∧ ∃ p, CW false (150 + 27 * rgx r P.1 k) M p (P.2 k)
section S43
variable {th : Bool} {z r : Nat} {M : mM} {p : Nat → Nat} {W : Wd} {P : Ps} {c : Nat}
theorem rW_ok {i : Nat} (h : i < 6) (h99 : M 99 i = nI (150 + 27 * i)) : rW M 99 6 (nI i) = some (150 + 27 * i) := by
  unfold rW
  rw [nI_clamp (by omega), h99, nI_clamp (by omega), if_pos ⟨inb_nI h (by omega), nI_pos (by omega), isWb_ring h⟩]
theorem TP_cg {w : Nat} {M' : mM} (h : TP w M p) (e : M' (w + 4) = M (w + 4)) : TP w M' p := fun t ht => ⟨(h t ht).1, by rw [e]; exact (h t ht).2.1, (h t ht).2.2⟩
theorem cw_remember (hz : 1000 ≤ z) (hC : CW false 1 M p W) (h150 : wb W ≤ 150) (hP : PC M r P) : ∃ M' r', F_Rec_remember z M = some M' ∧ PC M' r' (sRem P W) ∧ (∀ c', c' ≠ 0 → (c' < 150 ∨ 312 ≤ c') → M' c' = M c') ∧ ∀ j, j ≠ 6 → j ≠ 7 → M' 0 j = M 0 j := by
  obtain ⟨n6, r6, h7, h6, hi, hk⟩ := hP
  obtain ⟨h99, q, hq⟩ := hi r r6
  obtain ⟨M1, a1, a2, a3⟩ := cw_copy hz (isW_ring r6) (show isW 1 by unfold isW; simp) (by omega) hq hC h150
  have e0 : M1 0 = M 0 := a3 0 (by unfold inW; omega)
  obtain ⟨n', hn'⟩ : ∃ n', n' = if P.1 = 6 then 6 else P.1 + 1 := ⟨_, rfl⟩
  have hmin : F_Math_min (nI (P.1 + 1)) (nI 6) = nI n' := by
    rw [hn']
    by_cases h : P.1 = 6
    · rw [if_pos h, h]; decide
    · rw [if_neg h, min_nn (by omega) (by omega)]
  obtain ⟨M', d⟩ : ∃ M', M' = up (up M1 0 6 (nI ((r + 1) % 6))) 0 7 (nI n') := ⟨_, rfl⟩
  have ne : ∀ c', c' ≠ 0 → M' c' = M1 c' := fun c' h => by
    rw [d]
    funext j
    rw [up_neC _ _ _ _ h, up_neC _ _ _ _ h]
  refine ⟨M', (r + 1) % 6, ?_, ?_, fun c' h1 h2 => by rw [ne c' h1, a3 c' (by unfold inW; omega)], fun j h1 h2 => by rw [d, up_neJ _ _ _ h2, up_neJ _ _ _ h1, e0]⟩
  · unfold F_Rec_remember
    rw [h6, rW_ok r6 h99, ob1_ok, a1, ob1_ok, e0, h6, nadd, jrem6 _ (by omega), ob1_ok, ob1_ok, up_neJ _ _ _ (by omega), e0, h7, nadd, hmin, ob1_ok, ob1_ok, d]
  · have hS1 : (sRem P W).1 = n' := by
      unfold sRem
      rw [hn']
      by_cases h : P.1 = 6
      · rw [if_pos h, if_pos h]
      · rw [if_neg h, if_neg h]
    refine ⟨by rw [hS1, hn']; split <;> omega, by omega, by rw [hS1, d, up_same], by rw [d, up_neJ _ _ _ (by omega), up_same], fun i h => ?_, fun k h => ?_⟩
    · obtain ⟨g1, s, g2⟩ := hi i h
      refine ⟨by rw [ne _ (by omega), a3 _ (by unfold inW; omega)]; exact g1, ?_⟩
      by_cases hir : i = r
      · subst hir
        exact ⟨q, TP_cg (CW_P a2) (ne _ (by omega))⟩
      · exact ⟨s, TP_cg g2 (by rw [ne _ (by omega), a3 _ (by unfold inW; omega)])⟩
    · rw [hS1] at h
      have hnew : ∃ p, CW false (150 + 27 * r) M' p W := ⟨q, CW_congr a2 (fun c' hc => ne c' (by unfold inW at hc; omega))⟩
      have hold : ∀ k, k < P.1 → rgx r P.1 k ≠ r → ∃ p, CW false (150 + 27 * rgx r P.1 k) M' p (P.2 k) := fun k h1 h2 => by
        obtain ⟨s, hs⟩ := (hk k h1).2
        have h3 : rgx r P.1 k < 6 := Nat.mod_lt _ (by omega)
        exact ⟨s, CW_congr hs (fun c' hc => by
          unfold inW at hc
          rw [ne c' (by omega), a3 c' (by unfold inW; omega)])⟩
      rw [hS1]
      unfold sRem
      by_cases h6' : P.1 = 6
      · rw [if_pos h6'] at hn' ⊢
        show wb (if k < 5 then P.2 (k + 1) else W) ≤ 150 ∧ ∃ p, CW false _ M' p (if k < 5 then P.2 (k + 1) else W)
        by_cases h5 : k < 5
        · rw [if_pos h5]
          have er : rgx ((r + 1) % 6) n' k = rgx r P.1 (k + 1) := by unfold rgx; omega
          rw [er]
          exact ⟨(hk (k + 1) (by omega)).1, hold (k + 1) (by omega) (by unfold rgx; omega)⟩
        · rw [if_neg h5]
          have er : rgx ((r + 1) % 6) n' k = r := by unfold rgx; omega
          rw [er]
          exact ⟨h150, hnew⟩
      · rw [if_neg h6'] at hn' ⊢
        show wb (if k < P.1 then P.2 k else W) ≤ 150 ∧ ∃ p, CW false _ M' p (if k < P.1 then P.2 k else W)
        by_cases h5 : k < P.1
        · rw [if_pos h5]
          have er : rgx ((r + 1) % 6) n' k = rgx r P.1 k := by unfold rgx; omega
          rw [er]
          exact ⟨(hk k h5).1, hold k h5 (by unfold rgx; omega)⟩
        · rw [if_neg h5]
          have er : rgx ((r + 1) % 6) n' k = r := by unfold rgx; omega
          rw [er]
          exact ⟨h150, hnew⟩
theorem cw_undo (hz : 1000 ≤ z) (hT : TP 1 M p) (hP : PC M r P) : (P.1 = 0 ∧ F_Rec_undo z M = some (false, M)) ∨ (∃ n M' r', P.1 = n + 1 ∧ F_Rec_undo z M = some (true, M') ∧ CW false 1 M' p (P.2 n) ∧ PC M' r' (n, P.2) ∧ (∀ c', c' ≠ 0 → ¬ inW 1 c' → M' c' = M c') ∧ ∀ j, j ≠ 6 → j ≠ 7 → M' 0 j = M 0 j) := by
  obtain ⟨n6, r6, h7, h6, hi, hk⟩ := hP
  unfold F_Rec_undo
  rw [h7]
  by_cases h0 : P.1 = 0
  · left
    rw [h0, if_pos rfl]
    exact ⟨rfl, rfl⟩
  · right
    obtain ⟨n, hn⟩ : ∃ n, P.1 = n + 1 := ⟨P.1 - 1, by omega⟩
    obtain ⟨b150, s, hs⟩ := hk n (by omega)
    have er : rgx r P.1 n = (r + 5) % 6 := by unfold rgx; omega
    rw [er] at hs
    obtain ⟨r', hr'⟩ : ∃ r', r' = (r + 5) % 6 := ⟨_, rfl⟩
    rw [← hr'] at hs
    have r6' : r' < 6 := by omega
    obtain ⟨M5, d⟩ : ∃ M5, M5 = up (up M 0 7 (nI n)) 0 6 (nI r') := ⟨_, rfl⟩
    have ne : ∀ c', c' ≠ 0 → M5 c' = M c' := fun c' h => by
      rw [d]
      funext j
      rw [up_neC _ _ _ _ h, up_neC _ _ _ _ h]
    obtain ⟨M', a1, a2, a3⟩ := cw_copy (M := M5) hz (show isW 1 by unfold isW; simp) (isW_ring r6') (by omega) (TP_cg hT (ne _ (by omega))) (CW_congr hs (fun c' hc => ne c' (by unfold inW at hc; omega))) b150
    have e0 : M' 0 = M5 0 := a3 0 (by unfold inW; omega)
    refine ⟨n, M', r', hn, ?_, a2, ⟨by show n ≤ 6; omega, r6', by rw [e0, d, up_neJ _ _ _ (by omega), up_same], by rw [e0, d, up_same], fun i h => ?_, fun k h => ?_⟩, fun c' h1 h2 => by rw [a3 c' h2, ne c' h1], fun j h1 h2 => by rw [e0, d, up_neJ _ _ _ h1, up_neJ _ _ _ h2]⟩
    · rw [if_neg (eF h0 (by omega) (by omega)), hn, nsb (by omega), Nat.add_sub_cancel, ob1_ok, up_neJ _ _ _ (by omega), h6, nadd, nsb (by omega), show r + 6 - 1 = r + 5 by omega, jrem6 _ (by omega), ob1_ok, ob1_ok, ← hr', ← d]
      have h06 : M5 0 6 = nI r' := by rw [d, up_same]
      rw [h06, rW_ok r6' (by rw [ne _ (by omega)]; exact (hi r' r6').1), ob1_ok, a1, ob1_ok]
    · obtain ⟨g1, q, g2⟩ := hi i h
      refine ⟨by rw [a3 _ (by unfold inW; omega), ne _ (by omega)]; exact g1, q, TP_cg g2 (by rw [a3 _ (by unfold inW; omega), ne _ (by omega)])⟩
    · have h' : k < n := h
      obtain ⟨g1, q, g2⟩ := hk k (by omega)
      have er2 : rgx r' n k = rgx r P.1 k := by unfold rgx; omega
      have h3 : rgx r P.1 k < 6 := Nat.mod_lt _ (by omega)
      show wb (P.2 k) ≤ 150 ∧ ∃ p, CW false (150 + 27 * rgx r' n k) M' p (P.2 k)
      rw [er2]
      exact ⟨g1, q, CW_congr g2 (fun c' hc => by
        unfold inW at hc
        rw [a3 c' (by unfold inW; omega), ne c' (by omega)])⟩
end S43
